/-! ===== two houses: the reference's walk, and the answer ===== -/
theorem d_goOver {μ : Mm} {K : MV → Mm → Prop} {g : Nat} (hw : Wb (vM μ)) (hs : W9 (vM μ)) (hg : g < 8) (hK : K mU (mT μ 55 21 22 (OV (vM μ) g))) : s_X10_goOver [mO 9 55, mI (nI g)] μ K := by
  refine g_X10_goOver ?_
  have hn : μ 55 0 = nI (nA (vM μ)) := hw.1.2.2
  have h6 := hw.1.2.1
  have ag : ∀ s, AgM μ (mT μ 55 21 22 s) := fun s => ((AgM.rf μ).st rfl).st rfl
  have lin : ∀ (d k e : Nat) (m : Int32) (μ' : Mm) (z7 : MV), e ≤ nA (vM μ) → k + d = nA (vM μ) - e + 1 →
      ((e = 0 ∧ k = 0 ∧ m = (-1000000) ∧ μ' = μ) ∨ (m = (inn (vM μ) g e (out (vM μ) g e) k).1 ∧ μ' = mT μ 55 21 22 (inn (vM μ) g e (out (vM μ) g e) k))) →
      (∀ (y : Int32) (x z : MV), Tot e_X10_goOver K 8 [mO 9 55, mI (nI g), mI (inn (vM μ) g e (out (vM μ) g e) (nA (vM μ) - e + 1)).1, mI (sw (vM μ) g e), mI (nI (e + 1)), mI y, x, z] [] (mT μ 55 21 22 (inn (vM μ) g e (out (vM μ) g e) (nA (vM μ) - e + 1)))) →
      Tot e_X10_goOver K 55 [mO 9 55, mI (nI g), mI m, mI (sw (vM μ) g e), mI (nI e), mI (sth (vM μ) e (k - 1)), mI (nI (e + k)), z7] [] μ' := by
    intro d
    induction d with
    | zero =>
      intro k e m μ' z7 he hk hm hnext
      have ek : k = nA (vM μ) - e + 1 := by omega
      rcases hm with hm | ⟨hm, hμ⟩
      · omega
      refine g_X10_goOver_55 ?_
      subst hμ
      rw [hm, ag _ 55 0 rfl, hn, if_pos (nI_lt (by omega) (by omega))]
      have := hnext (sth (vM μ) e (k - 1)) (mI (nI (e + k))) z7
      rw [← ek, ← nI_1 e] at this
      exact this
    | succ d ih =>
      intro k e m μ' z7 he hk hm hnext
      have ha : AgM μ μ' := by
        rcases hm with ⟨-, -, -, hμ⟩ | ⟨-, hμ⟩
        · rw [hμ]; exact AgM.rf μ
        · rw [hμ]; exact ag _
      have hi : inn (vM μ) g e (out (vM μ) g e) (k + 1) = if val (vM μ) g e k ≤ (inn (vM μ) g e (out (vM μ) g e) k).1 then inn (vM μ) g e (out (vM μ) g e) k else (val (vM μ) g e k, e, e + k) := rfl
      have hv : vM μ' = vM μ := ha.vM
      have go : s_X10_faresOf [mO 9 55, mI (μ' 55 2), mI (nI e)] μ' (fun v1 μ1 => s_X10_faresOf [mO 9 55, mI (μ1 55 5), mI (nI (e + k) - nI e)] μ1 (fun v2 μ2 => if ((sw (vM μ) g e + sth (vM μ) e k) - (vI v1)) - (vI v2) ≤ m then Tot e_X10_goOver K 55 [mO 9 55, mI (nI g), mI m, mI (sw (vM μ) g e), mI (nI e), mI (sth (vM μ) e k), mI (nI (e + k) + 1), mI (((sw (vM μ) g e + sth (vM μ) e k) - (vI v1)) - (vI v2))] [] μ2 else Tot e_X10_goOver K 55 [mO 9 55, mI (nI g), mI (((sw (vM μ) g e + sth (vM μ) e k) - (vI v1)) - (vI v2)), mI (sw (vM μ) g e), mI (nI e), mI (sth (vM μ) e k), mI (nI (e + k) + 1), mI (((sw (vM μ) g e + sth (vM μ) e k) - (vI v1)) - (vI v2))] [] (mS (mS μ2 55 21 (nI e)) 55 22 (nI (e + k))))) := by
        refine d_faresOf (by rw [hv]; exact hs) (by omega) ?_
        rw [nI_sub0]
        refine d_faresOf (by rw [hv]; exact hs) (by omega) ?_
        rw [vI_mI, vI_mI, ha 55 2 rfl, ha 55 3 rfl, ha 55 5 rfl]
        have ev : ((sw (vM μ) g e + sth (vM μ) e k) - fr (μ 55 2) (μ 55 3) e) - fr (μ 55 5) (μ 55 3) k = val (vM μ) g e k := by
          show _ = sw (vM μ) g e - fr (μ 55 2) (μ 55 3) e + (sth (vM μ) e k - fr (μ 55 5) (μ 55 3) k)
          generalize sw (vM μ) g e = A
          generalize sth (vM μ) e k = B
          generalize fr (μ 55 2) (μ 55 3) e = C
          generalize fr (μ 55 5) (μ 55 3) k = D
          grind
        rw [ev]
        have hn1 : nI (e + k) + 1 = nI (e + (k + 1)) := nI_1 (e + k)
        rw [hn1]
        rcases hm with ⟨e0, k0, hm, hμ⟩ | ⟨hm, hμ⟩
        · subst e0
          subst k0
          subst hμ
          have h0 : val (vM μ') g 0 0 = 0 := val_00 (vM μ') g
          rw [if_pos (by rw [h0]; show (0 : Int32) ≤ 0; decide)] at hi
          rw [hm, h0, if_neg (by decide)]
          refine ih 1 0 0 _ _ he (by omega) (Or.inr ⟨?_, ?_⟩) hnext
          · rw [hi]; rfl
          · rw [hi]; rfl
        · subst hμ
          rw [hm]
          split
          · rename_i q
            rw [if_pos q] at hi
            refine ih (k + 1) e _ _ _ he (by omega) (Or.inr ⟨?_, ?_⟩) hnext
            · rw [hi]
            · rw [hi]
          · rename_i q
            rw [if_neg q] at hi
            rw [mT_mT (x := val (vM μ) g e k) (by decide)]
            refine ih (k + 1) e _ _ _ he (by omega) (Or.inr ⟨?_, ?_⟩) hnext
            · rw [hi]
            · rw [hi]
      refine g_X10_goOver_55 ?_
      rw [ha 55 0 rfl, hn, if_neg (nI_nlt (by omega) (by omega))]
      by_cases hk0 : k = 0
      · rw [if_pos (by rw [hk0]; exact Int32.le_refl _)]
        have e5 : sth (vM μ) e (k - 1) + 0 = sth (vM μ) e k := by
          rw [hk0]
          show (0 : Int32) + 0 = 0
          decide
        rw [e5]
        exact go
      · obtain ⟨j, rfl⟩ : ∃ j, k = j + 1 := ⟨k - 1, by omega⟩
        rw [if_neg (i_not_le_of_lt (nI_lt (by omega) (by omega)))]
        have ep : nI (e + (j + 1)) - 1 = nI (e + j) := nI_pred (e + j)
        have e59 : μ' 59 = μ 59 := ha.cell fun _ => rfl
        have e3 : vM μ 3 (e + j) = μ 59 (e + j) := tr_at (f := μ 59) (by omega)
        rw [ep, nI_clamp (by omega), e59, ← e3]
        refine ⟨vi_nI (by omega) (by decide), ?_⟩
        exact go
  have lout : ∀ (d e : Nat) (m : Int32) (μ' : Mm) (z5 z6 z7 : MV), e + d = nA (vM μ) + 1 →
      ((e = 0 ∧ m = (-1000000) ∧ μ' = μ) ∨ (0 < e ∧ m = (out (vM μ) g e).1 ∧ μ' = mT μ 55 21 22 (out (vM μ) g e))) →
      Tot e_X10_goOver K 8 [mO 9 55, mI (nI g), mI m, mI (sw (vM μ) g (e - 1)), mI (nI e), z5, z6, z7] [] μ' := by
    intro d
    induction d with
    | zero =>
      intro e m μ' z5 z6 z7 he hm
      rcases hm with hm | ⟨-, hm, hμ⟩
      · omega
      refine g_X10_goOver_8 ?_
      subst hμ
      rw [ag _ 55 0 rfl, hn, if_pos (nI_lt (by omega) (by omega)), show e = nA (vM μ) + 1 by omega]
      exact hK
    | succ d ih =>
      intro e m μ' z5 z6 z7 he hm
      have ha : AgM μ μ' := by
        rcases hm with ⟨-, -, hμ⟩ | ⟨-, -, hμ⟩
        · rw [hμ]; exact AgM.rf μ
        · rw [hμ]; exact ag _
      refine g_X10_goOver_8 ?_
      rw [ha 55 0 rfl, hn, if_neg (nI_nlt (by omega) (by omega))]
      have go : Tot e_X10_goOver K 55 [mO 9 55, mI (nI g), mI m, mI (sw (vM μ) g e), mI (nI e), mI 0, mI (nI e), z7] [] μ' := by
        refine lin (nA (vM μ) - e + 1) 0 e m μ' z7 (by omega) (by omega) ?_ (fun y x z => ?_)
        · rcases hm with ⟨e0, hm, hμ⟩ | ⟨-, hm, hμ⟩
          · exact Or.inl ⟨e0, rfl, hm, hμ⟩
          · exact Or.inr ⟨hm, hμ⟩
        · exact ih (e + 1) _ _ _ _ _ (by omega) (Or.inr ⟨by omega, rfl, rfl⟩)
      by_cases he0 : e = 0
      · rw [if_pos (by rw [he0]; show (0 : Int32) ≤ 0; decide)]
        have e5 : sw (vM μ) g (e - 1) + 0 = sw (vM μ) g e := by
          rw [he0]
          show (0 : Int32) + 0 = 0
          decide
        rw [e5]
        exact go
      · obtain ⟨j, rfl⟩ : ∃ j, e = j + 1 := ⟨e - 1, by omega⟩
        rw [if_neg (i_not_le_of_lt (show (0 : Int32) < nI (j + 1) from nI_lt (a := 0) (by omega) (by omega)))]
        obtain ⟨w1, w2, w3⟩ := wbM_wp hw hg (j := j) (by omega)
        have ep : nI (j + 1) - 1 = nI j := nI_pred j
        have e57 : μ' 57 = μ 57 := ha.cell (fun _ => rfl)
        have e56 : μ' 56 = μ 56 := ha.cell (fun _ => rfl)
        have ex : 6 * nI g + nI (oA (vM μ) j) = nI (6 * g + oA (vM μ) j) := by
          rw [show (6 : Int32) * nI g = nI 6 * nI g from rfl, nI_mul, nI_add]
        rw [ep, nI_clamp (by omega), e57, w3, ex, nI_clamp (by omega), e56, ← w2]
        exact ⟨vi_nI (by omega) (by decide), vi_nI w1 (by decide), go⟩
  exact lout (nA (vM μ) + 1) 0 (-1000000) μ mU mU mU (by omega) (Or.inl ⟨rfl, rfl, rfl⟩)
theorem call_over {μ : Mm} (r : Rl μ) (a b : Int32) : s_X9_over [mO 8 0, mI a, mI b] μ (fun v1 μ1 => s_X10_over [mO 9 55, mI a, mI b] μ1 (fun v2 μ2 => Gd v1 v2 μ2)) := by
  refine g_X9_over (c_comes ?_)
  rw [vI_mI, ite_b, r.v]
  cases hc : cmB (vM μ) a with
  | false =>
    rw [cond_false]
    refine g_X10_over (d_comes ?_)
    rw [vI_mI, ite_b, hc]
    exact ⟨rfl, r⟩
  | true =>
    rw [cond_true]
    refine c_within ?_
    rw [vI_mI, ite_b]
    cases hb : decide (0 ≤ b ∧ b ≤ 1) with
    | false =>
      rw [cond_false]
      refine g_X10_over (d_comes ?_)
      rw [vI_mI, ite_b, hc, cond_true]
      refine d_in ?_
      rw [vI_mI, ite_b, hb]
      exact ⟨rfl, r⟩
    | true =>
      rw [cond_true]
      obtain ⟨g, hg, rfl⟩ := gst_in hc
      refine c_send (by rw [r.v]; exact r.wb) (fun d hd => by omega) hg ?_
      rw [r.v]
      have ha : AgX μ (mT μ 50 0 1 (OV (vM μ) g)) := ((AgX.rf μ).st rfl).st rfl
      have r2 : Rl (mT μ 50 0 1 (OV (vM μ) g)) := ha.Rl r
      have ref : ∀ v1 : MV, v1 = (if b = 0 then mI (nI (OV (vM μ) g).2.1) else mI (nI (OV (vM μ) g).2.2)) → s_X10_over [mO 9 55, mI (nI g), mI b] (mT μ 50 0 1 (OV (vM μ) g)) (fun v2 μ2 => Gd v1 v2 μ2) := by
        intro v1 hv1
        refine g_X10_over (d_comes ?_)
        rw [vI_mI, ite_b, ha.vM, hc, cond_true]
        refine d_in ?_
        rw [vI_mI, ite_b, hb, cond_true]
        refine d_goOver r2.wb r2.w9 hg ?_
        rw [ha.vM]
        have r3 : Rl (mT (mT μ 50 0 1 (OV (vM μ) g)) 55 21 22 (OV (vM μ) g)) := (((AgM.rf _).st rfl).st rfl : AgM (mT μ 50 0 1 (OV (vM μ) g)) _).Rl r2
        split
        · rename_i q
          rw [if_pos q] at hv1
          exact ⟨hv1, r3⟩
        · rename_i q
          rw [if_neg q] at hv1
          exact ⟨hv1, r3⟩
      split
      · rename_i q
        exact ref _ (by rw [if_pos q]; rfl)
      · rename_i q
        exact ref _ (by rw [if_neg q]; rfl)
