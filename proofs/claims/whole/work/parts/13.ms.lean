/-! ===== the reference: its leaves, TAKINGS ===== -/
/-- the reference's cells that hold nothing between calls -/
def sMb (c k : Nat) : Bool := (Nat.beq c 55 && (Nat.beq k 15 || (Nat.beq k 21 || Nat.beq k 22))) || (Nat.ble 63 c && Nat.ble c 69)
def AgM (μ μ' : Mm) : Prop := ∀ c k, sMb c k = false → μ' c k = μ c k
theorem AgM.rf (μ : Mm) : AgM μ μ := fun _ _ _ => rfl
theorem AgM.tr {μ μ' μ'' : Mm} (h : AgM μ μ') (h' : AgM μ' μ'') : AgM μ μ'' := fun c k e => (h' c k e).trans (h c k e)
theorem AgM.st {μ μ' : Mm} (h : AgM μ μ') {c k : Nat} {x : Int32} (e : sMb c k = true) : AgM μ (mS μ' c k x) := fun c' k' e' => by
  rw [mS_ne (fun z => by rw [z.1, z.2, e] at e'; cases e')]
  exact h c' k' e'
theorem AgM.cell {μ μ' : Mm} (h : AgM μ μ') {c : Nat} (e : ∀ k, sMb c k = false) : μ' c = μ c := funext fun k => h c k (e k)
theorem AgM.vM {μ μ' : Mm} (h : AgM μ μ') : vM μ' = vM μ := by
  have e56 : μ' 56 = μ 56 := h.cell (fun _ => rfl)
  have e57 : μ' 57 = μ 57 := h.cell (fun _ => rfl)
  have e59 : μ' 59 = μ 59 := h.cell (fun _ => rfl)
  have e60 : μ' 60 = μ 60 := h.cell (fun _ => rfl)
  have e61 : μ' 61 = μ 61 := h.cell (fun _ => rfl)
  have f0 : μ' 55 0 = μ 55 0 := h 55 0 rfl
  have f1 : μ' 55 1 = μ 55 1 := h 55 1 rfl
  have f2 : μ' 55 2 = μ 55 2 := h 55 2 rfl
  have f3 : μ' 55 3 = μ 55 3 := h 55 3 rfl
  have f4 : μ' 55 4 = μ 55 4 := h 55 4 rfl
  have f5 : μ' 55 5 = μ 55 5 := h 55 5 rfl
  have f6 : μ' 55 11 = μ 55 11 := h 55 11 rfl
  funext r
  unfold Jvm.Pilot.CActsPaidLaw_law_r7702_241336.vM
  simp only [e56, e57, e59, e60, e61, f0, f1, f2, f3, f4, f5, f6]
theorem d_in {μ : Mm} {K : MV → Mm → Prop} {x a b : Int32} (h : K (mI (bI (decide (a ≤ x ∧ x ≤ b)))) μ) : s_X10_in [mI x, mI a, mI b] μ K := by
  refine g_X10_in ?_
  split
  · rename_i h1
    refine ⟨zb0, ?_⟩
    have e : decide (a ≤ x ∧ x ≤ b) = false := by simp [i_not_le_of_lt h1]
    rw [e] at h; exact h
  · rename_i h1
    split
    · rename_i h2
      refine ⟨zb0, ?_⟩
      have e : decide (a ≤ x ∧ x ≤ b) = false := by simp [i_not_le_of_lt h2]
      rw [e] at h; exact h
    · rename_i h2
      refine ⟨zb1, ?_⟩
      have e : decide (a ≤ x ∧ x ≤ b) = true := by simp [i_le_of_not_lt h1, i_le_of_not_lt h2]
      rw [e] at h; exact h
theorem d_has {μ : Mm} {K : MV → Mm → Prop} {x a : Int32} (h : K (mI (bI (decide ((x >>> (a &&& 31)) &&& 1 = 1)))) μ) : s_X10_has [mI x, mI a] μ K := by
  refine g_X10_has ?_
  split
  · rename_i h1
    rw [decide_eq_true h1] at h
    exact ⟨zb1, h⟩
  · rename_i h1
    rw [decide_eq_false h1] at h
    exact ⟨zb0, h⟩
theorem d_isAct {μ : Mm} {K : MV → Mm → Prop} {a : Int32} (h : K (mI (bI (decide (0 ≤ a ∧ a ≤ μ 55 0 - 1)))) μ) : s_X10_isAct [mO 9 55, mI a] μ K :=
  g_X10_isAct (d_in ⟨zb_bI, h⟩)
theorem d_comes {μ : Mm} {K : MV → Mm → Prop} {a : Int32} (h : K (mI (bI (cmB (vM μ) a))) μ) : s_X10_comes [mO 9 55, mI a] μ K := by
  refine g_X10_comes (d_in ?_)
  rw [vI_mI, ite_b]
  have e0 : cmB (vM μ) a = (decide (0 ≤ a ∧ a ≤ 7) && decide ((μ 55 1 >>> (a &&& 31)) &&& 1 = 1)) := rfl
  rw [e0] at h
  cases hd : decide (0 ≤ a ∧ a ≤ 7) with
  | false =>
    rw [hd] at h
    exact ⟨zb0, h⟩
  | true =>
    rw [hd, Bool.true_and] at h
    rw [cond_true]
    refine d_has ?_
    rw [vI_mI, ite_b]
    cases he : decide ((μ 55 1 >>> (a &&& 31)) &&& 1 = 1) with
    | false => rw [he] at h; exact ⟨zb0, h⟩
    | true => rw [he] at h; exact ⟨zb1, h⟩
theorem cmB_8 {v : Vw} {g : Nat} (hg : g < 8) : cmB v (nI g) = decide ((v 0 1 >>> (nI g &&& 31)) &&& 1 = 1) := by
  unfold cmB
  have h : decide (0 ≤ nI g ∧ nI g ≤ 7) = true := decide_eq_true ⟨nI_pos' (by omega), nI_le (b := 7) (by omega) (by omega)⟩
  rw [h, Bool.true_and]
def W9 (v : Vw) : Prop := ∃ k, k ≤ 9 ∧ v 0 3 = nI k
section MT
variable {μ : Mm} {K : MV → Mm → Prop}
theorem wbM_wp (hw : Wb (vM μ)) {g j : Nat} (hg : g < 8) (hj : j < 6) : 6 * g + oA (vM μ) j < 48 ∧ wp (vM μ) g j = μ 56 (6 * g + oA (vM μ) j) ∧ μ 57 j = nI (oA (vM μ) j) := by
  have h := (hw.2 j hj).1
  have h2 : 6 * g + oA (vM μ) j < 48 := by omega
  exact ⟨h2, tr_at h2, (tr_at (f := μ 57) hj).symm.trans (hw.2 j hj).2⟩
theorem d_faresOf {b : Int32} {e : Nat} (hs : W9 (vM μ)) (he : e ≤ 6) (h : K (mI (fr b (μ 55 3) e)) μ) : s_X10_faresOf [mO 9 55, mI b, mI (nI e)] μ K := by
  refine g_X10_faresOf ⟨by decide, ?_⟩
  rw [fr_ref he (s := μ 55 3) hs]
  exact h
theorem d_leavesAt (hw : Wb (vM μ)) (hs : W9 (vM μ)) {g : Nat} (hg : g < 8) (h : ∀ μ', AgM μ μ' → μ' 55 15 = OWN (vM μ) g → K (mI (nI (LV (vM μ) g))) μ') : s_X10_leavesAt [mO 9 55, mI (nI g)] μ K := by
  refine g_X10_leavesAt ?_
  have hn : μ 55 0 = nI (nA (vM μ)) := hw.1.2.2
  have h6 := hw.1.2.1
  have lp : ∀ (d k : Nat) (z : MV) (μ' : Mm), k + d = nA (vM μ) → AgM μ μ' → μ' 55 15 = (lv (vM μ) g k).2 →
      Tot e_X10_leavesAt K 12 [mO 9 55, mI (nI g), mI (nI (lv (vM μ) g k).1), mI (sw (vM μ) g k), mI (nI (k + 1)), z] [] μ' := by
    intro d
    induction d with
    | zero =>
      intro k z μ' hk ha ho
      refine g_X10_leavesAt_12 ?_
      have e : k = nA (vM μ) := by omega
      rw [ha 55 0 rfl, hn, if_pos (nI_lt (by omega) (by omega))]
      rw [e] at ho ⊢
      exact h μ' ha ho
    | succ d ih =>
      intro k z μ' hk ha ho
      refine g_X10_leavesAt_12 ?_
      obtain ⟨w1, w2, w3⟩ := wbM_wp hw hg (j := k) (by omega)
      have e1 : nI (k + 1) - 1 = nI k := nI_pred k
      have e57 : μ' 57 = μ 57 := ha.cell (fun _ => rfl)
      have e56 : μ' 56 = μ 56 := ha.cell (fun _ => rfl)
      have ex : 6 * nI g + nI (oA (vM μ) k) = nI (6 * g + oA (vM μ) k) := by
        rw [show (6 : Int32) * nI g = nI 6 * nI g from rfl, nI_mul, nI_add]
      rw [if_neg (by rw [ha 55 0 rfl, hn]; exact nI_nlt (by omega) (by omega)), e1, nI_clamp (by omega), e57, w3, ex, nI_clamp (by omega), e56, ← w2]
      refine ⟨vi_nI (by omega) (by decide), vi_nI w1 (by decide), ?_⟩
      have hv : vM μ' = vM μ := ha.vM
      refine d_faresOf (by rw [hv]; exact hs) (by omega) ?_
      rw [vI_mI, ho, ha 55 0 rfl, ha 55 2 rfl, ha 55 3 rfl, ha 55 4 rfl]
      have es : sw (vM μ) g k + wp (vM μ) g k = sw (vM μ) g (k + 1) := rfl
      rw [es]
      have hl : lv (vM μ) g (k + 1) = if (lv (vM μ) g k).2 < sw (vM μ) g (k + 1) - fr (μ 55 2) (μ 55 3) (k + 1) ∧ (μ 55 4 = 0 ∨ k + 1 = nA (vM μ)) then (k + 1, sw (vM μ) g (k + 1) - fr (μ 55 2) (μ 55 3) (k + 1)) else lv (vM μ) g k := rfl
      have hlaw : (nI (k + 1) = μ 55 0) ↔ k + 1 = nA (vM μ) := by
        rw [hn, nI_eq (by omega) (by omega)]
      have no : ∀ y : MV, ¬ ((lv (vM μ) g k).2 < sw (vM μ) g (k + 1) - fr (μ 55 2) (μ 55 3) (k + 1) ∧ (μ 55 4 = 0 ∨ k + 1 = nA (vM μ))) → Tot e_X10_leavesAt K 12 [mO 9 55, mI (nI g), mI (nI (lv (vM μ) g k).1), mI (sw (vM μ) g (k + 1)), mI (nI (k + 1) + 1), y] [] μ' := fun y hno => by
        have := ih (k + 1) y μ' (by omega) ha (by rw [hl, if_neg hno]; exact ho)
        rw [hl, if_neg hno, ← nI_1] at this
        exact this
      have yes : ∀ y : MV, ((lv (vM μ) g k).2 < sw (vM μ) g (k + 1) - fr (μ 55 2) (μ 55 3) (k + 1) ∧ (μ 55 4 = 0 ∨ k + 1 = nA (vM μ))) → Tot e_X10_leavesAt K 12 [mO 9 55, mI (nI g), mI (nI (k + 1)), mI (sw (vM μ) g (k + 1)), mI (nI (k + 1) + 1), y] [] (mS μ' 55 15 (sw (vM μ) g (k + 1) - fr (μ 55 2) (μ 55 3) (k + 1))) := fun y hyes => by
        have := ih (k + 1) y (mS μ' 55 15 (sw (vM μ) g (k + 1) - fr (μ 55 2) (μ 55 3) (k + 1))) (by omega) (ha.st rfl) (by rw [mS_eq, hl, if_pos hyes])
        rw [hl, if_pos hyes, ← nI_1 (k + 1)] at this
        exact this
      split
      · rename_i q
        exact no _ (fun z => absurd z.1 (i_not_lt_of_le q))
      · rename_i q
        have q := i_lt_of_not_le q
        split
        · rename_i q2
          exact yes _ ⟨q, Or.inl q2⟩
        · rename_i q2
          split
          · rename_i q3
            exact yes _ ⟨q, Or.inr (hlaw.mp q3)⟩
          · rename_i q3
            exact no _ (fun z => z.2.elim q2 (fun z => q3 (hlaw.mpr z)))
  have := lp (nA (vM μ)) 0 mU (mS μ 55 15 0) (by omega) ((AgM.rf μ).st rfl) mS_eq
  exact this
theorem d_paysOf (hw : Wb (vM μ)) (hs : W9 (vM μ)) {g : Nat} (hg : g < 8) (h : ∀ μ', AgM μ μ' → K (mI (pay (vM μ) g)) μ') : s_X10_paysOf [mO 9 55, mI (nI g)] μ K := by
  refine g_X10_paysOf (d_leavesAt hw hs hg fun μ' ha ho => ?_)
  rw [vI_mI]
  refine d_faresOf (by rw [ha.vM]; exact hs) (Nat.le_trans LV_le hw.1.2.1) ?_
  rw [ha 55 3 rfl]
  exact h μ' ha
theorem d_allTakings (hw : Wb (vM μ)) (hs : W9 (vM μ)) (h : ∀ μ', AgM μ μ' → K (mI (TK (vM μ))) μ') : s_X10_allTakings [mO 9 55] μ K := by
  refine g_X10_allTakings ?_
  have lp : ∀ (d g : Nat) (μ' : Mm), g + d = 8 → AgM μ μ' → Tot e_X10_allTakings K 4 [mO 9 55, mI (sumN (payC (vM μ)) g), mI (nI g)] [] μ' := by
    intro d
    induction d with
    | zero =>
      intro g μ' hg ha
      refine g_X10_allTakings_4 ?_
      have e : g = 8 := by omega
      subst e
      rw [if_pos (by decide)]
      exact h μ' ha
    | succ d ih =>
      intro g μ' hg ha
      refine g_X10_allTakings_4 ?_
      rw [if_neg (show ¬ (8 : Int32) ≤ nI g from nI_ge (b := 8) (by omega) (by omega))]
      refine d_has ?_
      have hcm : decide ((μ 55 1 >>> (nI g &&& 31)) &&& 1 = 1) = cmB (vM μ) (nI g) := (cmB_8 (v := vM μ) (by omega)).symm
      rw [vI_mI, ite_b, ha 55 1 rfl, hcm]
      have hp : payC (vM μ) g = bif cmB (vM μ) (nI g) then pay (vM μ) g else 0 := rfl
      have hv : vM μ' = vM μ := ha.vM
      cases hc : cmB (vM μ) (nI g) with
      | false =>
        rw [hc] at hp
        have := ih (g + 1) μ' (by omega) ha
        rw [← nI_1, show sumN (payC (vM μ)) (g + 1) = sumN (payC (vM μ)) g + payC (vM μ) g from rfl, hp] at this
        exact this
      | true =>
        rw [hc] at hp
        refine d_paysOf (by rw [hv]; exact hw) (by rw [hv]; exact hs) (by omega) fun μ2 ha2 => ?_
        have := ih (g + 1) μ2 (by omega) (ha.tr ha2)
        rw [← nI_1, show sumN (payC (vM μ)) (g + 1) = sumN (payC (vM μ)) g + payC (vM μ) g from rfl, hp, cond_true] at this
        rw [vI_mI, hv]
        exact this
  exact lp 8 0 μ rfl (AgM.rf μ)
end MT
