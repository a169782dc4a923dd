/-! ===== ORDER: the reference's walk ===== -/
section OT2
variable {μ : Mm} {K : MV → Mm → Prop}
theorem d_allTakingsO (hw : Wb (vM μ)) (hs : W9 (vM μ)) (h : ∀ μ', AgO μ μ' → K (mI (TK (vM μ))) μ') : s_X10_allTakings [mO 9 55] μ K := by
  refine g_X10_allTakings ?_
  have lp : ∀ (d g : Nat) (μ' : Mm), g + d = 8 → AgO μ μ' → Tot e_X10_allTakings K 4 [mO 9 55, mI (sumN (payC (vM μ)) g), mI (nI g)] [] μ' := by
    intro d
    induction d with
    | zero =>
      intro g μ' hg ha
      refine g_X10_allTakings_4 ?_
      have e : g = 8 := by omega
      subst e
      rw [if_pos (by decide)]
      exact h μ' ha
    | succ d ih =>
      intro g μ' hg ha
      refine g_X10_allTakings_4 ?_
      rw [if_neg (show ¬ (8 : Int32) ≤ nI g from nI_ge (b := 8) (by omega) (by omega))]
      refine d_has ?_
      have hcm : decide ((μ 55 1 >>> (nI g &&& 31)) &&& 1 = 1) = cmB (vM μ) (nI g) := (cmB_8 (v := vM μ) (by omega)).symm
      rw [vI_mI, ite_b, ha 55 1 rfl, hcm]
      have hp : payC (vM μ) g = bif cmB (vM μ) (nI g) then pay (vM μ) g else 0 := rfl
      have hv : vM μ' = vM μ := ha.vM
      cases hc : cmB (vM μ) (nI g) with
      | false =>
        rw [hc] at hp
        have := ih (g + 1) μ' (by omega) ha
        rw [← nI_1, show sumN (payC (vM μ)) (g + 1) = sumN (payC (vM μ)) g + payC (vM μ) g from rfl, hp] at this
        exact this
      | true =>
        rw [hc] at hp
        refine d_paysOfO (by rw [hv]; exact hw) (by rw [hv]; exact hs) (by omega) fun μ2 ha2 => ?_
        have := ih (g + 1) μ2 (by omega) (ha.tr ha2)
        rw [← nI_1, show sumN (payC (vM μ)) (g + 1) = sumN (payC (vM μ)) g + payC (vM μ) g from rfl, hp, cond_true] at this
        rw [vI_mI, hv]
        exact this
  exact lp 8 0 μ rfl (AgO.rf μ)
theorem d_firstRow {n : Nat} (hn : n ≤ 8) (h : K mU (rzM μ 63 n (fun k => k))) : s_X10_firstRow [mO 9 55, mI (nI n)] μ K := by
  refine g_X10_firstRow ?_
  have lp : ∀ (d i : Nat), i + d = n → Tot e_X10_firstRow K 2 [mO 9 55, mI (nI n), mI (nI i)] [] (mW μ 63 (Fi nI (μ 63) i)) := by
    intro d
    induction d with
    | zero =>
      intro i hi
      have e : i = n := by omega
      refine g_X10_firstRow_2 ?_
      rw [if_pos (nI_le (by omega) (by omega)), e]
      exact h
    | succ d ih =>
      intro i hi
      refine g_X10_firstRow_2 ?_
      rw [if_neg (nI_ge (by omega) (by omega)), nI_clamp (by omega)]
      have := ih (i + 1) (by omega)
      rw [← nI_1] at this
      rw [mW_st (f' := Fi nI (μ 63) (i + 1)) Fi_at (fun k hk => Fi_ne hk)]
      exact ⟨vi_nI (by omega) (by decide), this⟩
  have := lp n 0 (by omega)
  rw [Fi_0, mW_id rfl] at this
  exact this
end OT2
/-- what the walk leaves of the reference -/
def oD (n : Nat) (μ μ' : Mm) : Prop := (∀ c k, sMb c k = false → ¬ (c = 57 ∧ k < n) → μ' c k = μ c k) ∧ ∀ k, k < n → μ' 64 k = μ 57 k
theorem oD.cell {n : Nat} {μ μ' : Mm} (h : oD n μ μ') {c : Nat} (h57 : c ≠ 57) (e : ∀ k, sMb c k = false) : μ' c = μ c := funext fun k => h.1 c k (e k) (fun z => h57 z.1)
theorem oD.v {n : Nat} {μ μ' : Mm} (h : oD n μ μ') : ∀ r, r ≠ 2 → vM μ' r = vM μ r := by
  have e56 : μ' 56 = μ 56 := h.cell (by decide) (fun _ => rfl)
  have e59 : μ' 59 = μ 59 := h.cell (by decide) (fun _ => rfl)
  have e60 : μ' 60 = μ 60 := h.cell (by decide) (fun _ => rfl)
  have e61 : μ' 61 = μ 61 := h.cell (by decide) (fun _ => rfl)
  have f0 : μ' 55 0 = μ 55 0 := h.1 55 0 rfl (by omega)
  have f1 : μ' 55 1 = μ 55 1 := h.1 55 1 rfl (by omega)
  have f2 : μ' 55 2 = μ 55 2 := h.1 55 2 rfl (by omega)
  have f3 : μ' 55 3 = μ 55 3 := h.1 55 3 rfl (by omega)
  have f4 : μ' 55 4 = μ 55 4 := h.1 55 4 rfl (by omega)
  have f5 : μ' 55 5 = μ 55 5 := h.1 55 5 rfl (by omega)
  have f6 : μ' 55 11 = μ 55 11 := h.1 55 11 rfl (by omega)
  intro r hr
  match r, hr with
  | 0, _ => unfold vM; simp only [f0, f1, f2, f3, f4, f5, f6]
  | 1, _ => unfold vM; simp only [e56]
  | 2, hr => exact absurd rfl hr
  | 3, _ => unfold vM; simp only [e59]
  | 4, _ => unfold vM; simp only [e60]
  | 5, _ => unfold vM; simp only [e61]
  | 6, _ => unfold vM; simp only [e61]
  | 7, _ => unfold vM; simp only [e61]
  | r + 8, _ => rfl
theorem oD.o {n : Nat} {μ μ' μ'' : Mm} (h : oD n μ μ') (g : AgO μ' μ'') : oD n μ μ'' := by
  refine ⟨fun c k e1 e2 => ?_, fun k hk => by rw [g 64 k rfl]; exact h.2 k hk⟩
  have ho : oMb c k = false := by
    cases ho : oMb c k with
    | false => rfl
    | true =>
      unfold oMb at ho
      simp only [Bool.and_eq_true] at ho
      rw [Nat.eq_of_beq_eq_true ho.1, Nat.eq_of_beq_eq_true ho.2] at e1
      cases e1
  rw [g c k ho]
  exact h.1 c k e1 e2
/-- writes into a scratch row but the kept order -/
theorem oD.w {n c : Nat} {μ μ' : Mm} {f : Nat → Int32} (h : oD n μ μ') (hc : c = 63 ∨ c = 65) : oD n μ (mW μ' c f) := by
  refine ⟨fun c' k e1 e2 => ?_, fun k hk => ?_⟩
  · have : c' ≠ c := fun e => by
      rcases hc with q | q
      · rw [e, q] at e1; cases e1
      · rw [e, q] at e1; cases e1
    rw [mW_c this]
    exact h.1 c' k e1 e2
  · rw [mW_c (by omega)]
    exact h.2 k hk
theorem oD.w57 {n : Nat} {μ μ' : Mm} {f : Nat → Int32} (h : oD n μ μ') (hf : ∀ k, ¬ k < n → f k = μ' 57 k) : oD n μ (mW μ' 57 f) := by
  refine ⟨fun c' k e1 e2 => ?_, fun k hk => ?_⟩
  · by_cases q : c' = 57
    · rw [q, mW_eq]
      rw [q] at e1 e2
      rw [hf k (fun z => e2 ⟨rfl, z⟩)]
      exact h.1 57 k e1 e2
    · rw [mW_c q]
      exact h.1 c' k e1 e2
  · rw [mW_c (by omega)]
    exact h.2 k hk
def ansO (v : Vw) (b : List Nat) (x : Int32) : Int32 := if x = -1 then TO v b else bif decide (0 ≤ x ∧ x ≤ nI (nA v) - 1) then nI (rg b x.toNatClampNeg) else -6
theorem d_order {μ : Mm} {K : MV → Mm → Prop} {F : Nat → Int32} {x : Int32} (hw : Wb (vM μ)) (h9 : W9 (vM μ)) (pm : Pm (nA (vM μ)) F (μ 58)) (nn : ∀ s : List Nat, s.Perm (List.range (nA (vM μ))) → ∃ k, k ≤ 3200 ∧ TO (vM μ) s = nI k) (hK : ∀ b μ', rzB (okC (nA (vM μ)) F) (VO (vM μ)) (rzT (nA (vM μ))) (some b) → AgM μ μ' → K (mI (ansO (vM μ) b x)) μ') : s_X10_order [mO 9 55, mI x] μ K := by
  generalize hgv : vM μ = v at hw h9 pm nn hK
  have h6 : nA v ≤ 6 := hw.1.2.1
  have hn : μ 55 0 = nI (nA v) := by rw [← hgv] at hw ⊢; exact hw.1.2.2
  have hn' : ∀ {μ' : Mm}, oD (nA v) μ μ' → μ' 55 0 = nI (nA v) := fun h => by rw [h.1 55 0 rfl (by omega), hn]
  refine g_X10_order ?_
  have l2 : ∀ (d i : Nat), i + d = nA v → Tot e_X10_order K 2 [mO 9 55, mI x, mI (nI i), mU, mU, mU] [] (mW μ 64 (Fi (μ 57) (μ 64) i)) := by
    intro d
    induction d with
    | succ d ih =>
      intro i hi
      refine g_X10_order_2 ?_
      rw [mW_c (by decide), hn, if_neg (nI_ge (by omega) (by omega)), nI_clamp (by omega), mW_c (by decide)]
      have := ih (i + 1) (by omega)
      rw [← nI_1] at this
      rw [mW_st (f' := Fi (μ 57) (μ 64) (i + 1)) Fi_at (fun k hk => Fi_ne hk)]
      exact ⟨vi_nI (by omega) (by decide), vi_nI (by omega) (by decide), this⟩
    | zero =>
      intro i hi
      have ei : i = nA v := by omega
      refine g_X10_order_2 ?_
      rw [mW_c (by decide), hn, if_pos (nI_le (by omega) (by omega)), ei]
      refine d_firstRow (by omega) ?_
      have hod0 : oD (nA v) μ (mW μ 64 (Fi (μ 57) (μ 64) (nA v))) := ⟨fun c k e1 e2 => by rw [mW_c (fun z => by rw [z] at e1; cases e1)], fun k hk => by rw [mW_eq, Fi_lt hk]⟩
      have fin : ∀ (o : Option (List Nat)) (μ' : Mm) (z4 z5 : MV), oD (nA v) μ μ' → (∀ b, o = some b → ∀ k, k < nA v → μ' 65 k = nI (rg b k)) → rzB (okC (nA v) F) (VO v) (rzT (nA v)) o → Tot e_X10_order K 41 [mO 9 55, mI x, mI (mC (-6) v o), mI 0, z4, z5] [] μ' := by
        intro o μ' z4 z5 hod hb hend
        refine g_X10_order_41 ?_
        rw [if_pos rfl]
        have l156 : ∀ (d i : Nat), i + d = nA v → Tot e_X10_order K 156 [mO 9 55, mI x, mI (mC (-6) v o), mI 0, mI (nI i), z5] [] (mW μ' 57 (Fi (μ' 64) (μ' 57) i)) := by
          intro d
          induction d with
          | succ d ih =>
            intro i hi
            refine g_X10_order_156 ?_
            rw [mW_c (by decide), hn' hod, if_neg (nI_ge (by omega) (by omega)), nI_clamp (by omega), mW_c (by decide)]
            have := ih (i + 1) (by omega)
            rw [← nI_1] at this
            rw [mW_st (f' := Fi (μ' 64) (μ' 57) (i + 1)) Fi_at (fun k hk => Fi_ne hk)]
            exact ⟨vi_nI (by omega) (by decide), vi_nI (by omega) (by decide), this⟩
          | zero =>
            intro i hi
            have ei : i = nA v := by omega
            refine g_X10_order_156 ?_
            have ag : AgM μ (mW μ' 57 (Fi (μ' 64) (μ' 57) (nA v))) := fun c k e => by
              by_cases q : c = 57
              · rw [q, mW_eq]
                by_cases hk : k < nA v
                · rw [Fi_lt hk, hod.2 k hk]
                · show (if k < nA v then μ' 64 k else μ' 57 k) = μ 57 k
                  rw [if_neg hk]
                  exact hod.1 57 k rfl (fun z => hk z.2)
              · rw [mW_c q]
                exact hod.1 c k e (fun z => q z.1)
            rw [mW_c (by decide), hn' hod, if_pos (nI_le (by omega) (by omega)), ei]
            match o, hb, hend with
            | none, _, hend =>
              obtain ⟨s, s1, s2⟩ := ok_some h6 pm
              exact absurd s2 (hend s s1)
            | some b, hb, hend =>
              have hK := hK b _ hend ag
              unfold ansO at hK
              by_cases ex : x = -1
              · rw [if_pos ex]
                rw [if_pos ex] at hK
                exact hK
              · rw [if_neg ex]
                rw [if_neg ex] at hK
                refine d_isAct ?_
                rw [vI_mI, ite_b, mW_c (by decide), hn' hod]
                cases hd : decide (0 ≤ x ∧ x ≤ nI (nA v) - 1) with
                | false =>
                  rw [hd, cond_false] at hK
                  exact hK
                | true =>
                  rw [hd, cond_true] at hK
                  rw [cond_true]
                  obtain ⟨k, hk, rfl⟩ := act_in hw.1.1 h6 hd
                  rw [nI_clamp (by omega)] at hK ⊢
                  rw [mW_c (by decide), hb b rfl k hk]
                  exact ⟨vi_nI (by omega) (by decide), hK⟩
        have := l156 (nA v) 0 (by omega)
        rw [Fi_0, mW_id rfl] at this
        exact this
      have step : ∀ (f : Nat → Nat) (o : Option (List Nat)) (μ' : Mm) (z4 z5 : MV), rzP (nA v) f → oD (nA v) μ μ' → (∀ k, k < nA v → μ' 63 k = nI (f k)) → (∀ b, o = some b → ∀ k, k < nA v → μ' 65 k = nI (rg b k)) → rzB (okC (nA v) F) (VO v) (rzS (nA v) (rzv (rzl f 0 (nA v)))) o →
          (∀ (g : Nat → Nat) (o2 : Option (List Nat)) (μ2 : Mm) (z4 z5 : MV), rzN (nA v) f g → oD (nA v) μ μ2 → (∀ k, k < nA v → μ2 63 k = nI (g k)) → (∀ b, o2 = some b → ∀ k, k < nA v → μ2 65 k = nI (rg b k)) → rzB (okC (nA v) F) (VO v) (rzS (nA v) (rzv (rzl g 0 (nA v)))) o2 → Tot e_X10_order K 41 [mO 9 55, mI x, mI (mC (-6) v o2), mI 1, z4, z5] [] μ2) →
          Tot e_X10_order K 41 [mO 9 55, mI x, mI (mC (-6) v o), mI 1, z4, z5] [] μ' := by
        intro f o μ' z4 z5 hp hod hr hb hB hnext
        have nx : ∀ (μ2 : Mm) (o2 : Option (List Nat)) (y4 y5 : MV), oD (nA v) μ μ2 → (∀ k, k < nA v → μ2 63 k = nI (f k)) → (∀ b, o2 = some b → ∀ k, k < nA v → μ2 65 k = nI (rg b k)) → rzB (okC (nA v) F) (VO v) (fun s => s.Perm (List.range (nA v)) ∧ rzv s ≤ rzv (rzl f 0 (nA v))) o2 →
            s_X10_nextRow [mO 9 55, mI (μ2 55 0)] μ2 (fun v1 μ3 => Tot e_X10_order K 41 [mO 9 55, mI x, mI (mC (-6) v o2), mI (vI v1), y4, y5] [] μ3) := by
          intro μ2 o2 y4 y5 od2 q1 q3 qB
          have := d_nextRow (μ := μ2) (n := nA v) (f := f) (K := fun v1 μ3 => Tot e_X10_order K 41 [mO 9 55, mI x, mI (mC (-6) v o2), mI (vI v1), y4, y5] [] μ3) (by omega) hp (fun g hg => by
            show Tot e_X10_order K 41 [mO 9 55, mI x, mI (mC (-6) v o2), mI (vI (mI 1)), y4, y5] [] (rzM μ2 63 (nA v) g)
            rw [vI_mI]
            exact hnext g o2 _ y4 y5 hg (od2.w (Or.inl rfl)) (fun k hk => rzM_at hk) (fun b e k hk => by rw [rzM_c (by decide)]; exact q3 b e k hk) (rzB_nx hg qB)) (fun he => by
            show Tot e_X10_order K 41 [mO 9 55, mI x, mI (mC (-6) v o2), mI (vI (mI 0)), y4, y5] [] (rzM μ2 63 (nA v) f)
            rw [vI_mI, rzM_id q1]
            exact fin o2 μ2 y4 y5 od2 q3 (rzB_end he qB))
          rw [rzM_id q1] at this
          rw [hn' od2]
          exact this
        have e58 : μ' 58 = μ 58 := hod.cell (by decide) (fun _ => rfl)
        refine g_X10_order_41 ?_
        rw [if_neg i10]
        refine d_keepsMust (n := nA v) (f := f) h6 hp (hn' hod) hr (fun a ha => by rw [e58]; exact pm.2.1 a ha) (fun hok => ?_) (fun hno => ?_)
        · rw [vI_mI, if_neg i10]
          rw [e58] at hok
          have hokC : okC (nA v) F (rzl f 0 (nA v)) := okC_l.mpr ((ok_iff h6 pm hp).mpr hok)
          obtain ⟨k0, hk0, ek0⟩ := nn _ hp
          have l93 : ∀ (μ3 : Mm), oD (nA v) μ μ3 → (∀ k, k < nA v → μ3 63 k = nI (f k)) → (∀ b, o = some b → ∀ k, k < nA v → μ3 65 k = nI (rg b k)) → Tot e_X10_order K 93 [mO 9 55, mI x, mI (mC (-6) v o), mI 1, mI (TO v (rzl f 0 (nA v))), mI 0] [] μ3 := by
            intro μ3 od3 r3 b3
            by_cases q : TO v (rzl f 0 (nA v)) ≤ mC (-6) v o
            · refine g_X10_order_93 ?_
              rw [if_neg (show ¬ μ3 55 0 ≤ 0 by rw [hn' od3]; exact nI_ge (a := 0) (by have := hw.1.1; omega) (by omega)), if_pos q, if_pos q]
              refine nx μ3 o _ _ od3 r3 b3 (rzB_no (by omega) hp hB (Or.inr ?_))
              match o, q with
              | none, q =>
                have q : TO v (rzl f 0 (nA v)) ≤ -6 := q
                rw [ek0] at q
                exact absurd q (nn_m6 hk0)
              | some b, q =>
                refine ⟨b, rfl, ?_⟩
                have q : TO v (rzl f 0 (nA v)) ≤ TO v b := q
                have := Int32.le_iff_toInt_le.mp q
                show - (TO v b).toInt ≤ - (TO v (rzl f 0 (nA v))).toInt
                omega
            · have lc : ∀ (d i : Nat), i + d = nA v → Tot e_X10_order K 93 [mO 9 55, mI x, mI (mC (-6) v o), mI 1, mI (TO v (rzl f 0 (nA v))), mI (nI i)] [] (mW μ3 65 (Fi (μ3 63) (μ3 65) i)) := by
                intro d
                induction d with
                | succ d ih =>
                  intro i hi
                  refine g_X10_order_93 ?_
                  rw [mW_c (by decide), hn' od3, if_neg (nI_ge (by omega) (by omega)), if_neg q, nI_clamp (by omega), mW_c (by decide)]
                  have := ih (i + 1) (by omega)
                  rw [← nI_1] at this
                  rw [mW_st (f' := Fi (μ3 63) (μ3 65) (i + 1)) Fi_at (fun k hk => Fi_ne hk)]
                  exact ⟨vi_nI (by omega) (by decide), vi_nI (by omega) (by decide), this⟩
                | zero =>
                  intro i hi
                  have ei : i = nA v := by omega
                  refine g_X10_order_93 ?_
                  rw [if_pos (show mW μ3 65 (Fi (μ3 63) (μ3 65) i) 55 0 ≤ nI i by rw [mW_c (by decide), hn' od3]; exact nI_le (by omega) (by omega)), if_neg q]
                  refine nx _ (some (rzl f 0 (nA v))) _ _ (od3.w (Or.inr rfl)) (fun k hk => by rw [mW_c (by decide), r3 k hk]) (fun b e k hk => ?_) (rzB_yes (by omega) hp hB hokC (fun b e => ?_))
                  · cases e
                    rw [mW_eq, Fi_lt (by omega), r3 k hk, rzl_get _ 0 k hk, Nat.zero_add]
                  · subst e
                    have q : ¬ TO v (rzl f 0 (nA v)) ≤ TO v b := q
                    have := Int32.lt_iff_toInt_lt.mp (i_lt_of_not_le q)
                    show - (TO v (rzl f 0 (nA v))).toInt < - (TO v b).toInt
                    omega
              have := lc (nA v) 0 (by omega)
              rw [Fi_0, mW_id rfl] at this
              exact this
          have l55 : ∀ (d i : Nat), i + d = nA v → Tot e_X10_order K 55 [mO 9 55, mI x, mI (mC (-6) v o), mI 1, mI (nI i), z5] [] (mW μ' 57 (Fi (μ' 63) (μ' 57) i)) := by
            intro d
            induction d with
            | succ d ih =>
              intro i hi
              refine g_X10_order_55 ?_
              rw [mW_c (by decide), hn' hod, if_neg (nI_ge (by omega) (by omega)), nI_clamp (by omega), mW_c (by decide)]
              have := ih (i + 1) (by omega)
              rw [← nI_1] at this
              rw [mW_st (f' := Fi (μ' 63) (μ' 57) (i + 1)) Fi_at (fun k hk => Fi_ne hk)]
              exact ⟨vi_nI (by omega) (by decide), vi_nI (by omega) (by decide), this⟩
            | zero =>
              intro i hi
              have ei : i = nA v := by omega
              subst ei
              refine g_X10_order_55 ?_
              rw [if_pos (show mW μ' 57 (Fi (μ' 63) (μ' 57) (nA v)) 55 0 ≤ nI (nA v) by rw [mW_c (by decide), hn' hod]; exact Int32.le_refl _)]
              have od2 : oD (nA v) μ (mW μ' 57 (Fi (μ' 63) (μ' 57) (nA v))) := hod.w57 (fun k hk => if_neg hk)
              have v0 : vM (mW μ' 57 (Fi (μ' 63) (μ' 57) (nA v))) 0 = v 0 := by rw [← hgv]; rw [← hgv] at od2; exact od2.v 0 (by decide)
              have v1 : vM (mW μ' 57 (Fi (μ' 63) (μ' 57) (nA v))) 1 = v 1 := by rw [← hgv]; rw [← hgv] at od2; exact od2.v 1 (by decide)
              have v2 : ∀ j, j < nA v → vM (mW μ' 57 (Fi (μ' 63) (μ' 57) (nA v))) 2 j = nI (f j) := fun j hj => by
                show tr 6 (mW μ' 57 (Fi (μ' 63) (μ' 57) (nA v)) 57) j = nI (f j)
                rw [tr_at (by omega), mW_eq, Fi_lt hj, hr j hj]
              have v3 : ∀ j, nA v ≤ j → j < 6 → ∃ a, a < 6 ∧ vM (mW μ' 57 (Fi (μ' 63) (μ' 57) (nA v))) 2 j = nI a := fun j hj hj6 => by
                refine ⟨oA v j, (hw.2 j hj6).1, ?_⟩
                rw [← (hw.2 j hj6).2]
                show tr 6 (mW μ' 57 (Fi (μ' 63) (μ' 57) (nA v)) 57) j = v 2 j
                rw [tr_at hj6, mW_eq]
                show (if j < nA v then μ' 63 j else μ' 57 j) = v 2 j
                rw [if_neg (by omega), hod.1 57 j rfl (fun z => by omega), ← hgv]
                exact (tr_at (f := μ 57) hj6).symm
              refine d_allTakingsO (row_wb hw v0 hp v2 v3) (by unfold W9; rw [v0]; exact h9) fun μ3 ha3 => ?_
              rw [row_TK v0 v1 v2, vI_mI]
              exact l93 μ3 (od2.o ha3) (fun k hk => by rw [ha3 63 k rfl, mW_c (by decide), hr k hk]) (fun b e k hk => by rw [ha3 65 k rfl, mW_c (by decide), hb b e k hk])
          have := l55 (nA v) 0 (by omega)
          rw [Fi_0, mW_id rfl] at this
          exact this
        · rw [vI_mI, if_pos rfl]
          refine nx μ' o _ _ hod hr hb (rzB_no (by omega) hp hB (Or.inl (fun q => hno ?_)))
          rw [e58]
          exact (ok_iff h6 pm hp).mp (okC_l.mp q)
      have lp : ∀ (d : Nat) (f : Nat → Nat) (o : Option (List Nat)) (μ' : Mm) (z4 z5 : MV), (rzA (nA v) (List.range (nA v))).length ≤ rzC (nA v) (rzl f 0 (nA v)) + d → rzP (nA v) f → oD (nA v) μ μ' → (∀ k, k < nA v → μ' 63 k = nI (f k)) → (∀ b, o = some b → ∀ k, k < nA v → μ' 65 k = nI (rg b k)) → rzB (okC (nA v) F) (VO v) (rzS (nA v) (rzv (rzl f 0 (nA v)))) o → Tot e_X10_order K 41 [mO 9 55, mI x, mI (mC (-6) v o), mI 1, z4, z5] [] μ' := by
        intro d
        induction d with
        | zero =>
          intro f o μ' z4 z5 hd hp hod hr hb hB
          refine step f o μ' z4 z5 hp hod hr hb hB (fun g o2 μ2 y4 y5 hg => ?_)
          have := rzC_lt hg
          have := rzC_le (n := nA v) (r := rzl g 0 (nA v))
          omega
        | succ d ih =>
          intro f o μ' z4 z5 hd hp hod hr hb hB
          refine step f o μ' z4 z5 hp hod hr hb hB (fun g o2 μ2 y4 y5 hg k1 k2 k3 k4 => ?_)
          have := rzC_lt hg
          exact ih g o2 μ2 y4 y5 (by omega) hg.1 k1 k2 k3 k4
      exact lp _ (fun k => k) none _ mU mU (Nat.le_add_left _ _) rz_id (hod0.w (Or.inl rfl)) (fun k hk => rzM_at hk) (fun b e => by cases e) (rzB_0 (by omega))
  have := l2 (nA v) 0 (by omega)
  rw [Fi_0, mW_id rfl] at this
  exact this
theorem call_order {μ : Mm} (r : Rl μ) (a : Int32) : s_X9_order [mO 8 0, mI a] μ (fun v1 μ1 => s_X10_order [mO 9 55, mI a] μ1 (fun v2 μ2 => Gd v1 v2 μ2)) := by
  obtain ⟨b0, hb0, -, eb⟩ := r.f2
  obtain ⟨s0, hs0, -, es⟩ := r.f3
  have nn : ∀ s : List Nat, s.Perm (List.range (nA (vM μ))) → ∃ k, k ≤ 3200 ∧ TO (vM μ) s = nI k := fun s hs => TO_nn r.wb hs hb0 hs0 eb es
  have pm : Pm (nA (vM μ)) (μ 7) (μ 58) := r.2.2.1
  refine g_X9_order (c_within ?_)
  rw [vI_mI, ite_b, r.n3]
  cases hd : decide (-1 ≤ a ∧ a ≤ nI (nA (vM μ)) - 1) with
  | false =>
    have hd := of_decide_eq_false hd
    have hn : nI (nA (vM μ)) - 1 = nI (nA (vM μ) - 1) := by rw [show (1 : Int32) = nI 1 from rfl, nI_sub r.n1]
    refine d_order (F := μ 7) r.wb r.w9 pm nn (fun b μ' _ ha => ⟨?_, ha.Rl r⟩)
    unfold ansO
    have h1 : ¬ a = -1 := fun e => hd ⟨by rw [e]; exact Int32.le_refl _, by
      rw [e, hn]
      exact Int32.le_trans (show (-1 : Int32) ≤ 0 by decide) (nI_pos' (by have := r.n6; omega))⟩
    rw [if_neg h1]
    cases h2 : decide (0 ≤ a ∧ a ≤ nI (nA (vM μ)) - 1) with
    | false => rfl
    | true =>
      have h2 := of_decide_eq_true h2
      exact absurd ⟨Int32.le_trans (show (-1 : Int32) ≤ 0 by decide) h2.1, h2.2⟩ hd
  | true =>
    have hd := of_decide_eq_true hd
    have hx : a = -1 ∨ ∃ k, k < nA (vM μ) ∧ a = nI k := by
      by_cases e : a = -1
      · exact Or.inl e
      · right
        have h0 : 0 ≤ a := by
          have h1 := Int32.le_iff_toInt_le.mp hd.1
          have h2 : ¬ a.toInt = (-1 : Int32).toInt := fun z => e (Int32.toInt_inj.mp z)
          have h3 : (-1 : Int32).toInt = -1 := by decide
          have h4 : (0 : Int32).toInt = 0 := by decide
          refine Int32.le_iff_toInt_le.mpr ?_
          omega
        exact act_in r.n1 r.n6 (decide_eq_true ⟨h0, hd.2⟩)
    rw [cond_true]
    refine c_tried fun μ1 ha1 hv1 hm1 => ?_
    rw [vC_mO]
    have pm1 : Pm (nA (vM μ)) (μ 7) (μ1 58) := by rw [ha1.cell (c := 58) (fun _ => rfl)]; exact pm
    refine c_order (v := vM μ) (F := μ 7) r.wb (by rw [hv1, r.v]) hm1 pm.1 nn (ok_some r.n6 pm) hx (fun b μ2 hB ha2 => ?_)
    have r2 : Rl μ2 := (ha1.tr ha2).Rl r
    have ev : vM μ2 = vM μ := (ha1.tr ha2).vM
    rw [vI_mI]
    refine d_order (F := μ 7) r2.wb r2.w9 ?_ (by rw [ev]; exact nn) (fun b' μ3 hB' ha3 => ⟨?_, ha3.Rl r2⟩)
    · rw [ev, (ha1.tr ha2).cell (c := 58) (fun _ => rfl)]; exact pm
    · rw [ev] at hB' ⊢
      have e := rzB_one (by have := r.n6; omega) hB hB'
      cases e
      unfold ansO
      rcases hx with rfl | ⟨k, hk, rfl⟩
      · rw [if_pos rfl, if_pos rfl]
      · have hne : ¬ nI k = -1 := fun z => by
          have := nI_pos (n := k) (by have := r.n6; omega)
          rw [z] at this
          exact this (by decide)
        have hin : decide (0 ≤ nI k ∧ nI k ≤ nI (nA (vM μ)) - 1) = true := by
          rw [show (1 : Int32) = nI 1 from rfl, nI_sub r.n1]
          have := r.n6
          exact decide_eq_true ⟨nI_pos' (by omega), nI_le (by omega) (by omega)⟩
        rw [if_neg hne, if_neg hne, hin, cond_true]
