/-! ===== two houses: what each takes in all ===== -/
def hr (v : Vw) (s g : Nat) : Int32 := bif cmB v (nI g) then (if s = 0 then fr (v 0 2) (v 0 3) (OV v g).2.1 else fr (v 0 5) (v 0 3) ((OV v g).2.2 - (OV v g).2.1)) else 0
def HS (v : Vw) (s : Nat) : Int32 := sumN (hr v s) 8
theorem mT_0 {μ : Mm} {s : T3} : mT μ 50 0 1 s 50 0 = nI s.2.1 := by unfold mT; rw [mS_k (by decide), mS_eq]
theorem mT_1 {μ : Mm} {s : T3} : mT μ 50 0 1 s 50 1 = nI s.2.2 := by unfold mT; rw [mS_eq]
theorem mT_k {μ : Mm} {c i k : Nat} {s : T3} {j : Nat} (h1 : j ≠ i) (h2 : j ≠ k) : mT μ c i k s c j = μ c j := by
  unfold mT
  rw [mS_k h2, mS_k h1]
theorem c_sendAll {μ : Mm} {K : MV → Mm → Prop} {c : Nat} (hw : Wb (vS μ c)) (hc : ∀ d, d ≤ 9 → c + d ≠ 50) (hK : ∀ μ', (∀ c', c' ≠ 50 → μ' c' = μ c') → μ' 50 2 = HS (vS μ c) 0 → μ' 50 3 = HS (vS μ c) 1 → K mU μ') : s_X1_sendAll [mO 1 50, mO 7 c] μ K := by
  refine g_X1_sendAll ?_
  have hc0 : c ≠ 50 := hc 0 (by omega)
  have lp : ∀ (d g : Nat) (μ' : Mm), g + d = 8 → (∀ c', c' ≠ 50 → μ' c' = μ c') → μ' 50 2 = sumN (hr (vS μ c) 0) g → μ' 50 3 = sumN (hr (vS μ c) 1) g → Tot e_X1_sendAll K 12 [mO 1 50, mO 7 c, mI (nI g)] [] μ' := by
    intro d
    induction d with
    | zero =>
      intro g μ' hg ha h2 h3
      have e : g = 8 := by omega
      subst e
      refine g_X1_sendAll_12 ?_
      rw [if_pos (show (8 : Int32) ≤ nI 8 by decide)]
      exact hK μ' ha h2 h3
    | succ d ih =>
      intro g μ' hg ha h2 h3
      refine g_X1_sendAll_12 ?_
      have h8 : ¬ (8 : Int32) ≤ nI g := i_not_le_of_lt (show nI g < nI 8 from nI_lt (by omega) (by omega))
      rw [if_neg h8]
      have ev : vS μ' c = vS μ c := vS_congr fun d hd => ha _ (hc d hd)
      refine c_comes ?_
      rw [vI_mI, ite_b, ev]
      have s2 : sumN (hr (vS μ c) 0) (g + 1) = sumN (hr (vS μ c) 0) g + hr (vS μ c) 0 g := rfl
      have s3 : sumN (hr (vS μ c) 1) (g + 1) = sumN (hr (vS μ c) 1) g + hr (vS μ c) 1 g := rfl
      cases hb : cmB (vS μ c) (nI g) with
      | false =>
        rw [cond_false, nI_1]
        refine ih (g + 1) μ' (by omega) ha ?_ ?_
        · rw [s2, h2, hr, hb, cond_false]; exact (Int32.add_zero _).symm
        · rw [s3, h3, hr, hb, cond_false]; exact (Int32.add_zero _).symm
      | true =>
        rw [cond_true]
        refine c_send (by rw [ev]; exact hw) hc (by omega) ?_
        rw [ev]
        obtain ⟨b1, b2⟩ := OV_b (v := vS μ c) (g := g)
        have h6 := hw.1.2.1
        have q2 : hr (vS μ c) 0 g = fr (μ c 1) (μ c 2) (OV (vS μ c) g).2.1 := by
          rw [hr, hb, cond_true, if_pos rfl]; rfl
        have q3 : hr (vS μ c) 1 g = fr (μ c 4) (μ c 2) ((OV (vS μ c) g).2.2 - (OV (vS μ c) g).2.1) := by
          rw [hr, hb, cond_true, if_neg (by decide)]; rfl
        generalize OV (vS μ c) g = s at b1 b2 q2 q3 ⊢
        rw [mT_0]
        refine c_price (by omega) ?_
        rw [vI_mI, mS_c hc0, mS_k (by decide), mS_k (by decide), mT_0, mT_1, nI_sub b1]
        refine c_price (by omega) ?_
        rw [vI_mI, mS_c hc0, mT_c hc0, ha c hc0, nI_1]
        rw [mS_k (by decide), mT_k (by decide) (by decide), mT_k (by decide) (by decide)]
        refine ih (g + 1) _ (by omega) (fun c' h' => ?_) ?_ ?_
        · rw [mS_c h', mS_c h', mT_c h', ha c' h']
        · rw [mS_k (by decide), mS_eq, s2, h2, q2]
        · rw [mS_eq, s3, h3, q3]
  refine lp 8 0 _ (by omega) (fun c' h' => by rw [mS_c h', mS_c h']) ?_ ?_
  · rw [mS_k (by decide), mS_eq]; rfl
  · rw [mS_eq]; rfl
theorem d_takenBy {μ : Mm} {K : MV → Mm → Prop} {x : Int32} {s : Nat} (hx : x = 0 ↔ s = 0) (hw : Wb (vM μ)) (hs : W9 (vM μ)) (hK : ∀ μ', AgM μ μ' → (∀ c, c ≠ 55 → μ' c = μ c) → K (mI (HS (vM μ) s)) μ') : s_X10_takenBy [mO 9 55, mI x] μ K := by
  refine g_X10_takenBy ?_
  have lp : ∀ (d g : Nat) (μ' : Mm), g + d = 8 → AgM μ μ' → (∀ c, c ≠ 55 → μ' c = μ c) → Tot e_X10_takenBy K 4 [mO 9 55, mI x, mI (sumN (hr (vM μ) s) g), mI (nI g)] [] μ' := by
    intro d
    induction d with
    | zero =>
      intro g μ' hg ha hcc
      have e : g = 8 := by omega
      subst e
      refine g_X10_takenBy_4 ?_
      rw [if_pos (show (8 : Int32) ≤ nI 8 by decide)]
      exact hK μ' ha hcc
    | succ d ih =>
      intro g μ' hg ha hcc
      refine g_X10_takenBy_4 ?_
      have h8 : ¬ (8 : Int32) ≤ nI g := i_not_le_of_lt (show nI g < nI 8 from nI_lt (by omega) (by omega))
      rw [if_neg h8]
      refine d_has ?_
      have s2 : sumN (hr (vM μ) s) (g + 1) = sumN (hr (vM μ) s) g + hr (vM μ) s g := rfl
      have hcm : decide ((μ' 55 1 >>> (nI g &&& 31)) &&& 1 = 1) = cmB (vM μ) (nI g) := by
        rw [cmB_8 (by omega), ha 55 1 rfl]; rfl
      rw [vI_mI, ite_b, hcm]
      cases hb : cmB (vM μ) (nI g) with
      | false =>
        rw [cond_false, nI_1]
        have := ih (g + 1) μ' (by omega) ha hcc
        rw [s2, hr, hb, cond_false, show sumN (hr (vM μ) s) g + 0 = sumN (hr (vM μ) s) g from Int32.add_zero _] at this
        exact this
      | true =>
        rw [cond_true]
        refine d_goOver (by rw [ha.vM]; exact hw) (by rw [ha.vM]; exact hs) (by omega) ?_
        rw [ha.vM]
        have ha2 : AgM μ (mT μ' 55 21 22 (OV (vM μ) g)) := (ha.st rfl).st rfl
        obtain ⟨b1, b2⟩ := OV_b (v := vM μ) (g := g)
        have h6 := hw.1.2.1
        have e21 : mT μ' 55 21 22 (OV (vM μ) g) 55 21 = nI (OV (vM μ) g).2.1 := by unfold mT; rw [mS_k (by decide), mS_eq]
        have e22 : mT μ' 55 21 22 (OV (vM μ) g) 55 22 = nI (OV (vM μ) g).2.2 := by unfold mT; rw [mS_eq]
        split
        · rename_i q
          rw [e21, ha2 55 2 rfl]
          refine d_faresOf (by rw [ha2.vM]; exact hs) (by omega) ?_
          rw [vI_mI, ha2 55 3 rfl, nI_1]
          have := ih (g + 1) _ (by omega) ha2 (fun c z => by rw [mT_c z, hcc c z])
          rw [s2, hr, hb, cond_true, if_pos (hx.mp q)] at this
          exact this
        · rename_i q
          rw [e21, e22, ha2 55 5 rfl, nI_sub b1]
          refine d_faresOf (by rw [ha2.vM]; exact hs) (by omega) ?_
          rw [vI_mI, ha2 55 3 rfl, nI_1]
          have := ih (g + 1) _ (by omega) ha2 (fun c z => by rw [mT_c z, hcc c z])
          rw [s2, hr, hb, cond_true, if_neg (fun z => q (hx.mpr z))] at this
          exact this
  exact lp 8 0 μ (by omega) (AgM.rf μ) (fun _ _ => rfl)
theorem call_both {μ : Mm} (r : Rl μ) (a : Int32) : s_X9_both [mO 8 0, mI a] μ (fun v1 μ1 => s_X10_both [mO 9 55, mI a] μ1 (fun v2 μ2 => Gd v1 v2 μ2)) := by
  refine g_X9_both (c_within ?_)
  rw [vI_mI, ite_b]
  cases hb : decide (0 ≤ a ∧ a ≤ 1) with
  | false =>
    rw [cond_false]
    refine g_X10_both (d_in ?_)
    rw [vI_mI, ite_b, hb]
    exact ⟨rfl, r⟩
  | true =>
    rw [cond_true]
    refine c_sendAll (by rw [r.v]; exact r.wb) (fun d hd => by omega) fun μ1 ha h2 h3 => ?_
    rw [r.v] at h2 h3
    have hx : AgX μ μ1 := fun c k e => by
      rw [ha c (fun z => by subst z; cases e)]
    have r2 : Rl μ1 := hx.Rl r
    have ref : ∀ (s : Nat) (v1 : MV), (a = 0 ↔ s = 0) → v1 = mI (HS (vM μ) s) → s_X10_both [mO 9 55, mI a] μ1 (fun v2 μ2 => Gd v1 v2 μ2) := by
      intro s v1 hs hv1
      refine g_X10_both (d_in ?_)
      rw [vI_mI, ite_b, hb, cond_true]
      refine d_takenBy hs r2.wb r2.w9 fun μ2 ha2 _ => ⟨?_, ha2.Rl r2⟩
      rw [vI_mI, hx.vM, hv1]
    split
    · rename_i q
      exact ref 0 _ ⟨fun _ => rfl, fun _ => q⟩ (by rw [h2])
    · rename_i q
      exact ref 1 _ ⟨fun z => absurd z q, fun z => absurd z (by decide)⟩ (by rw [h3])
