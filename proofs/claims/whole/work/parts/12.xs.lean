/-! ===== the class: rows, Stage ===== -/
theorem c_at {μ : Mm} {K : MV → Mm → Prop} {n c i : Nat} (hi : i < n) (hn : n < 2 ^ 31) (h : K (mI (μ c i)) μ) : s_X5_at [mA n c, mI (nI i)] μ K := by
  refine g_X5_at ?_
  have hi2 : i < 2 ^ 31 := Nat.lt_trans hi hn
  rw [if_neg (nI_pos hi2), if_neg (i_not_le_of_lt (nI_lt hi hn)), nI_clamp hi2]
  exact ⟨vi_nI hi hn, h⟩
theorem c_at_out {μ : Mm} {K : MV → Mm → Prop} {n c : Nat} {i : Int32} (hi : i < 0 ∨ nI n ≤ i) (h : K (mI 0) μ) : s_X5_at [mA n c, mI i] μ K := by
  refine g_X5_at ?_
  split
  · exact h
  · rw [if_pos (hi.resolve_left (by assumption))]
    exact h
theorem c_put {μ : Mm} {K : MV → Mm → Prop} {n c i : Nat} {x : Int32} (hi : i < n) (hn : n < 2 ^ 31) (h : K mU (mS μ c i x)) : s_X5_put [mA n c, mI (nI i), mI x] μ K := by
  refine g_X5_put ?_
  have hi2 : i < 2 ^ 31 := Nat.lt_trans hi hn
  rw [if_neg (nI_pos hi2), if_neg (i_not_le_of_lt (nI_lt hi hn)), nI_clamp hi2]
  exact ⟨vi_nI hi hn, h⟩
theorem c_within {μ : Mm} {K : MV → Mm → Prop} {x a b : Int32} (h : K (mI (bI (decide (a ≤ x ∧ x ≤ b)))) μ) : s_X9_within [mI x, mI a, mI b] μ K := by
  refine g_X9_within ?_
  split
  · rename_i h1
    refine ⟨zb0, ?_⟩
    have e : decide (a ≤ x ∧ x ≤ b) = false := by simp [i_not_le_of_lt h1]
    rw [e] at h; exact h
  · rename_i h1
    split
    · rename_i h2
      refine ⟨zb0, ?_⟩
      have e : decide (a ≤ x ∧ x ≤ b) = false := by simp [i_not_le_of_lt h2]
      rw [e] at h; exact h
    · rename_i h2
      refine ⟨zb1, ?_⟩
      have e : decide (a ≤ x ∧ x ≤ b) = true := by simp [i_le_of_not_lt h1, i_le_of_not_lt h2]
      rw [e] at h; exact h
theorem c_comes {μ : Mm} {K : MV → Mm → Prop} {c : Nat} {a : Int32} (h : K (mI (bI (cmB (vS μ c) a))) μ) : s_X8_comes [mO 7 c, mI a] μ K := by
  refine g_X8_comes (c_within ?_)
  rw [vI_mI]
  have e0 : cmB (vS μ c) a = (decide (0 ≤ a ∧ a ≤ 7) && decide ((μ c 5 >>> (a &&& 31)) &&& 1 = 1)) := rfl
  rw [e0] at h
  cases hd : decide (0 ≤ a ∧ a ≤ 7) with
  | false =>
    rw [hd] at h
    exact ⟨zb0, h⟩
  | true =>
    rw [hd, Bool.true_and] at h
    rw [if_neg (by decide)]
    split
    · rename_i h1
      rw [h1] at h
      exact ⟨zb0, h⟩
    · rename_i h1
      rw [and1_ne0 h1] at h
      exact ⟨zb1, h⟩
theorem c_hasAct {μ : Mm} {K : MV → Mm → Prop} {c : Nat} {a : Int32} (h : K (mI (bI (decide (0 ≤ a ∧ a ≤ μ c 0 - 1)))) μ) : s_X8_hasAct [mO 7 c, mI a] μ K := by
  refine g_X8_hasAct (c_within ?_)
  rw [vI_mI]
  cases hd : decide (0 ≤ a ∧ a ≤ μ c 0 - 1) with
  | false => rw [hd] at h; exact ⟨zb0, h⟩
  | true => rw [hd] at h; exact ⟨zb1, h⟩
section ST
variable {μ : Mm} {K : MV → Mm → Prop} {c : Nat}
theorem wb_wp (hw : Wb (vS μ c)) {g j : Nat} (hg : g < 8) (hj : j < 6) : 6 * g + oA (vS μ c) j < 48 ∧ wp (vS μ c) g j = μ (c + 2) (6 * g + oA (vS μ c) j) := by
  have h := (hw.2 j hj).1
  have h2 : 6 * g + oA (vS μ c) j < 48 := by omega
  exact ⟨h2, tr_at h2⟩
theorem c_worthPlayed (hw : Wb (vS μ c)) {g j : Nat} (hg : g < 8) (hj : j < 6) (h : K (mI (wp (vS μ c) g j)) μ) : s_X8_worthPlayed [mO 7 c, mI (nI g), mI (nI j)] μ K := by
  refine g_X8_worthPlayed (c_at hj (by decide) ?_)
  obtain ⟨h1, h2⟩ := wb_wp hw hg hj
  have e : μ (c + 1) j = nI (oA (vS μ c) j) := (tr_at (f := μ (c + 1)) hj).symm.trans (hw.2 j hj).2
  rw [vI_mI, e, show nI g * 6 = nI g * nI 6 from rfl, nI_mul, nI_add]
  refine c_at (by omega) (by decide) ?_
  rw [vI_mI, show g * 6 = 6 * g from Nat.mul_comm _ _, ← h2]
  exact h
theorem c_price {b : Int32} {e : Nat} (he : e ≤ 6) (h : K (mI (fr b (μ c 2) e)) μ) : s_X8_price [mO 7 c, mI b, mI (nI e)] μ K := by
  refine g_X8_price ⟨by decide, ?_⟩
  rw [fr_comp he]
  exact h
theorem c_behind_loop (hw : Wb (vS μ c)) {g : Nat} (hg : g < 8) (h : K (mI (nI (LV (vS μ c) g))) μ) : ∀ (d k : Nat) (z : MV), k + d = nA (vS μ c) →
    Tot e_X8_behind K 10 [mO 7 c, mI (nI g), mI (sw (vS μ c) g k - fr (μ c 1) (μ c 2) k), mI (lv (vS μ c) g k).2, mI (nI (lv (vS μ c) g k).1), mI (nI k), z] [] μ := by
  have hn : μ c 0 = nI (nA (vS μ c)) := hw.1.2.2
  intro d
  induction d with
  | zero =>
    intro k z hk
    refine g_X8_behind_10 ?_
    have e : k = nA (vS μ c) := by omega
    rw [if_pos (by rw [hn, e]; exact nI_le (Nat.le_refl _) (by have := hw.1.2.1; omega)), e]
    exact h
  | succ d ih =>
    intro k z hk
    have h6 := hw.1.2.1
    refine g_X8_behind_10 ?_
    rw [if_neg (by rw [hn]; exact nI_ge (by omega) (by omega))]
    refine c_worthPlayed hw hg (by omega) ?_
    have es : sw (vS μ c) g k - fr (μ c 1) (μ c 2) k + (vI (mI (wp (vS μ c) g k)) - μ c 1 - nI k * μ c 2) = sw (vS μ c) g (k + 1) - fr (μ c 1) (μ c 2) (k + 1) := by
      rw [fr_succ _ _ (by omega), vI_mI]
      show _ = sw (vS μ c) g k + wp (vS μ c) g k - _
      generalize sw (vS μ c) g k = A
      generalize fr (μ c 1) (μ c 2) k = B
      generalize wp (vS μ c) g k = C
      generalize nI k * μ c 2 = E
      generalize μ c 1 = F
      grind
    have hl : lv (vS μ c) g (k + 1) = if (lv (vS μ c) g k).2 < sw (vS μ c) g (k + 1) - fr (μ c 1) (μ c 2) (k + 1) ∧ (μ c 3 = 0 ∨ k + 1 = nA (vS μ c)) then (k + 1, sw (vS μ c) g (k + 1) - fr (μ c 1) (μ c 2) (k + 1)) else lv (vS μ c) g k := rfl
    have hlaw : (nI k = μ c 0 - 1) ↔ k + 1 = nA (vS μ c) := by
      rw [hn, show (1 : Int32) = nI 1 from rfl, nI_sub hw.1.1, nI_eq (by omega) (by omega)]
      omega
    rw [es]
    have st : ∀ y : MV, ¬ (μ c 3 = 0 ∨ k + 1 = nA (vS μ c)) → Tot e_X8_behind K 10 [mO 7 c, mI (nI g), mI (sw (vS μ c) g (k + 1) - fr (μ c 1) (μ c 2) (k + 1)), mI (lv (vS μ c) g k).2, mI (nI (lv (vS μ c) g k).1), mI (nI k + 1), y] [] μ := fun y hno => by
      have := ih (k + 1) y (by omega)
      rw [hl, if_neg (fun z => hno z.2), ← nI_1] at this
      exact this
    have st2 : ∀ y : MV, (sw (vS μ c) g (k + 1) - fr (μ c 1) (μ c 2) (k + 1)) ≤ (lv (vS μ c) g k).2 → Tot e_X8_behind K 10 [mO 7 c, mI (nI g), mI (sw (vS μ c) g (k + 1) - fr (μ c 1) (μ c 2) (k + 1)), mI (lv (vS μ c) g k).2, mI (nI (lv (vS μ c) g k).1), mI (nI k + 1), y] [] μ := fun y hno => by
      have := ih (k + 1) y (by omega)
      rw [hl, if_neg (fun z => absurd z.1 (i_not_lt_of_le hno)), ← nI_1] at this
      exact this
    have st3 : ∀ y : MV, (μ c 3 = 0 ∨ k + 1 = nA (vS μ c)) → ¬ (sw (vS μ c) g (k + 1) - fr (μ c 1) (μ c 2) (k + 1)) ≤ (lv (vS μ c) g k).2 → Tot e_X8_behind K 10 [mO 7 c, mI (nI g), mI (sw (vS μ c) g (k + 1) - fr (μ c 1) (μ c 2) (k + 1)), mI (sw (vS μ c) g (k + 1) - fr (μ c 1) (μ c 2) (k + 1)), mI (nI k + 1), mI (nI k + 1), y] [] μ := fun y hyes hno => by
      have := ih (k + 1) y (by omega)
      rw [hl, if_pos ⟨i_lt_of_not_le hno, hyes⟩, ← nI_1] at this
      exact this
    split
    · rename_i h0
      rw [if_neg i10]
      split
      · exact st2 _ (by assumption)
      · exact st3 _ (Or.inl h0) (by assumption)
    · rename_i h0
      split
      · rename_i h1
        rw [if_neg i10]
        split
        · exact st2 _ (by assumption)
        · exact st3 _ (Or.inr (hlaw.mp h1)) (by assumption)
      · rename_i h1
        rw [if_pos rfl]
        exact st _ (fun z => z.elim h0 (fun z => h1 (hlaw.mpr z)))
theorem c_behind (hw : Wb (vS μ c)) {g : Nat} (hg : g < 8) (h : K (mI (nI (LV (vS μ c) g))) μ) : s_X8_behind [mO 7 c, mI (nI g)] μ K := by
  refine g_X8_behind ?_
  have := c_behind_loop hw hg h (nA (vS μ c)) 0 mU (by omega)
  rw [sw0] at this
  exact this
theorem c_pays (hw : Wb (vS μ c)) {g : Nat} (hg : g < 8) (h : K (mI (payC (vS μ c) g)) μ) : s_X8_pays [mO 7 c, mI (nI g)] μ K := by
  refine g_X8_pays (c_comes ?_)
  rw [vI_mI, ite_b]
  unfold payC at h
  cases hc : cmB (vS μ c) (nI g) with
  | false =>
    rw [hc] at h
    exact h
  | true =>
    rw [hc, cond_true] at h
    rw [cond_true]
    refine c_behind hw hg ?_
    rw [vI_mI]
    refine c_price (Nat.le_trans LV_le hw.1.2.1) ?_
    exact h
theorem c_allPay_loop (hw : Wb (vS μ c)) (h : K (mI (TK (vS μ c))) μ) : ∀ (d g : Nat), g + d = 8 → Tot e_X8_allPay K 4 [mO 7 c, mI (sumN (payC (vS μ c)) g), mI (nI g)] [] μ := by
  intro d
  induction d with
  | zero =>
    intro g hg
    refine g_X8_allPay_4 ?_
    have e : g = 8 := by omega
    subst e
    rw [if_pos (by decide)]
    exact h
  | succ d ih =>
    intro g hg
    refine g_X8_allPay_4 ?_
    rw [if_neg (show ¬ (8 : Int32) ≤ nI g from nI_ge (b := 8) (by omega) (by omega))]
    refine c_pays hw (by omega) ?_
    have := ih (g + 1) (by omega)
    rw [← nI_1] at this
    exact this
theorem c_allPay (hw : Wb (vS μ c)) (h : K (mI (TK (vS μ c))) μ) : s_X8_allPay [mO 7 c] μ K := g_X8_allPay (c_allPay_loop hw h 8 0 rfl)
theorem c_worthOfFirst (hw : Wb (vS μ c)) {g e : Nat} (hg : g < 8) (he : e ≤ 6) (h : K (mI (sw (vS μ c) g e)) μ) : s_X8_worthOfFirst [mO 7 c, mI (nI g), mI (nI e)] μ K := by
  refine g_X8_worthOfFirst ?_
  have lp : ∀ (d k : Nat), k + d = e → Tot e_X8_worthOfFirst K 5 [mO 7 c, mI (nI g), mI (nI e), mI (sw (vS μ c) g k), mI (nI k)] [] μ := by
    intro d
    induction d with
    | zero =>
      intro k hk
      have e1 : k = e := by omega
      subst e1
      refine g_X8_worthOfFirst_5 ?_
      rw [if_pos (nI_le (Nat.le_refl _) (by omega))]
      exact h
    | succ d ih =>
      intro k hk
      refine g_X8_worthOfFirst_5 ?_
      rw [if_neg (nI_ge (by omega) (by omega))]
      refine c_worthPlayed hw hg (by omega) ?_
      have := ih (k + 1) (by omega)
      rw [← nI_1] at this
      exact this
  exact lp e 0 (by omega)
end ST
