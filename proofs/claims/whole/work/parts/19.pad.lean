/-! ===== the pad: faults, guests, orders ===== -/
/-- a row laid anew -/
def mW (μ : Mm) (c : Nat) (f : Nat → Int32) : Mm := fun c' k => if c' = c then f k else μ c' k
theorem mW_eq {μ : Mm} {c : Nat} {f : Nat → Int32} : mW μ c f c = f := by funext k; unfold mW; rw [if_pos rfl]
theorem mW_c {μ : Mm} {c : Nat} {f : Nat → Int32} {c' : Nat} (h : c' ≠ c) : mW μ c f c' = μ c' := by funext k; unfold mW; rw [if_neg h]
theorem mW_id {μ : Mm} {c : Nat} {f : Nat → Int32} (h : f = μ c) : mW μ c f = μ := by
  funext c' k
  unfold mW
  split
  · rename_i e; rw [e, h]
  · rfl
theorem mW_st {μ : Mm} {c i : Nat} {f f' : Nat → Int32} {x : Int32} (h1 : f' i = x) (h2 : ∀ k, k ≠ i → f' k = f k) : mS (mW μ c f) c i x = mW μ c f' := by
  funext c' k
  unfold mS mW
  by_cases e : c' = c
  · rw [if_pos e]
    by_cases e2 : k = i
    · rw [if_pos ⟨e, e2⟩, if_pos e, e2, h1]
    · rw [if_neg (fun z => e2 z.2), if_pos e, h2 k e2]
  · rw [if_neg (fun z => e z.1), if_neg e, if_neg e]
def tw (x : Int32) : Bool := decide ((97 : Int32) ≤ x ∧ x ≤ 122) || decide ((65 : Int32) ≤ x ∧ x ≤ 74)
def gfl (p : Nat → Int32) (n c : Nat) : Nat → Nat → Int32
  | 0, _ => if n ≤ c then -6 else nI c
  | d + 1, i => if n ≤ i then nI i else bif tw (p i) then gfl p n c d (i + 1) else nI i
theorem gfl_or {p : Nat → Int32} {n c : Nat} (hc : c ≤ 48) : ∀ (d i : Nat), i + d = c → gfl p n c d i = -6 ∨ ∃ k, k ≤ 48 ∧ gfl p n c d i = nI k
  | 0, i, h => by
    unfold gfl
    split
    · exact Or.inl rfl
    · exact Or.inr ⟨c, hc, rfl⟩
  | d + 1, i, h => by
    unfold gfl
    split
    · exact Or.inr ⟨i, by omega, rfl⟩
    · cases tw (p i) with
      | true => exact gfl_or hc d (i + 1) (by omega)
      | false => exact Or.inr ⟨i, by omega, rfl⟩
def oky (n : Nat) (x : Int32) : Bool := decide (0 ≤ x ∧ x ≤ nI n - 1)
def ofl (p : Nat → Int32) (n c : Nat) : Nat → Nat → Int32 → Int32
  | 0, _, _ => if n ≤ c then -6 else nI c
  | d + 1, i, m => bif oky n (p i - 48) then (if (m >>> ((p i - 48) &&& 31)) &&& 1 = 1 then nI i else ofl p n c d (i + 1) (m ||| ((1 : Int32) <<< ((p i - 48) &&& 31)))) else nI i
theorem ofl_or {p : Nat → Int32} {n c : Nat} (hc : c ≤ 48) : ∀ (d i : Nat) (m : Int32), i + d = c → (ofl p n c d i m = -6 ∧ n ≤ c ∧ ∀ j, i ≤ j → j < c → oky n (p j - 48) = true) ∨ ∃ k, k ≤ 48 ∧ ofl p n c d i m = nI k
  | 0, i, m, h => by
    unfold ofl
    split
    · exact Or.inl ⟨rfl, by assumption, fun j h1 h2 => by omega⟩
    · exact Or.inr ⟨c, hc, rfl⟩
  | d + 1, i, m, h => by
    unfold ofl
    cases ho : oky n (p i - 48) with
    | false => exact Or.inr ⟨i, by omega, rfl⟩
    | true =>
      rw [cond_true]
      split
      · exact Or.inr ⟨i, by omega, rfl⟩
      · rcases ofl_or hc d (i + 1) (m ||| ((1 : Int32) <<< ((p i - 48) &&& 31))) (by omega) with ⟨h1, h2, h3⟩ | h1
        · refine Or.inl ⟨h1, h2, fun j h4 h5 => ?_⟩
          by_cases e : j = i
          · rw [e]; exact ho
          · exact h3 j (by omega) h5
        · exact Or.inr h1
theorem neg6_nI {k : Nat} (h : k ≤ 48) : ¬ nI k = -6 := by
  have : ∀ k, k ≤ 48 → ¬ nI k = -6 := by decide
  exact this k h
section FLT
variable {μ : Mm} {K : MV → Mm → Prop} {n c : Nat} {p : Nat → Int32}
theorem c_tellsWorth {x : Int32} (h : K (mI (bI (tw x))) μ) : s_X3_tellsWorth [mI x] μ K := by
  refine g_X3_tellsWorth (c_within ?_)
  rw [vI_mI, ite_b]
  have e : tw x = (decide ((97 : Int32) ≤ x ∧ x ≤ 122) || decide ((65 : Int32) ≤ x ∧ x ≤ 74)) := rfl
  cases h1 : decide ((97 : Int32) ≤ x ∧ x ≤ 122) with
  | true =>
    rw [h1, Bool.true_or] at e
    rw [e] at h
    exact ⟨zb1, h⟩
  | false =>
    rw [h1, Bool.false_or] at e
    rw [cond_false]
    refine c_within ?_
    rw [vI_mI, ite_b, ← e]
    cases h2 : tw x with
    | true => rw [h2] at h; exact ⟨zb1, h⟩
    | false => rw [h2] at h; exact ⟨zb0, h⟩
theorem c_guestFault (hn : n ≤ 6) (hc : c ≤ 48) (e1 : μ 1 1 = nI c) (ep : ∀ i, i < 48 → μ 2 i = p i) (h : K (mI (gfl p n c c 0)) μ) : s_X3_guestFault [mO 3 1, mI (nI n)] μ K := by
  refine g_X3_guestFault ?_
  have lp : ∀ (d i : Nat), i + d = c → (K (mI (gfl p n c d i)) μ) → Tot e_X3_guestFault K 2 [mO 3 1, mI (nI n), mI (nI i)] [] μ := by
    intro d
    induction d with
    | zero =>
      intro i hi hK
      have e : i = c := by omega
      subst e
      refine g_X3_guestFault_2 ?_
      rw [e1, if_pos (nI_le (Nat.le_refl _) (by omega))]
      unfold gfl at hK
      split
      · rename_i q
        rw [if_pos ((nI_leI (by omega) (by omega)).mp q)] at hK
        exact hK
      · rename_i q
        rw [if_neg (fun z => q ((nI_leI (by omega) (by omega)).mpr z))] at hK
        exact hK
    | succ d ih =>
      intro i hi hK
      refine g_X3_guestFault_2 ?_
      unfold gfl at hK
      rw [e1, if_neg (nI_ge (by omega) (by omega))]
      split
      · rename_i q
        rw [if_pos ((nI_leI (by omega) (by omega)).mp q)] at hK
        exact hK
      · rename_i q
        rw [if_neg (fun z => q ((nI_leI (by omega) (by omega)).mpr z))] at hK
        refine g_X3_sign (c_at (by omega) (by decide) ?_)
        refine c_tellsWorth ?_
        rw [vI_mI, vI_mI, vI_mI, ep i (by omega), ite_b]
        cases ht : tw (p i) with
        | true =>
          rw [ht, cond_true] at hK
          have := ih (i + 1) (by omega) hK
          rw [← nI_1] at this
          exact this
        | false =>
          rw [ht, cond_false] at hK
          exact hK
  exact lp c 0 (by omega) h
theorem d_guestFault (hn : n ≤ 6) (hc : c ≤ 48) (e1 : μ 55 13 = nI c) (e0 : μ 55 0 = nI n) (h : K (mI (gfl (μ 62) n c c 0)) μ) : s_X10_guestFault [mO 9 55] μ K := by
  refine g_X10_guestFault ?_
  have lp : ∀ (d i : Nat), i + d = c → i ≤ n → (K (mI (gfl (μ 62) n c d i)) μ) → Tot e_X10_guestFault K 2 [mO 9 55, mI (nI i)] [] μ := by
    intro d
    induction d with
    | zero =>
      intro i hi hin hK
      have e : i = c := by omega
      subst e
      refine g_X10_guestFault_2 ?_
      rw [e1, e0, if_pos (nI_le (Nat.le_refl _) (by omega))]
      unfold gfl at hK
      split
      · rename_i q
        rw [if_pos ((nI_leI (by omega) (by omega)).mp q)] at hK
        exact hK
      · rename_i q
        rw [if_neg (fun z => q ((nI_leI (by omega) (by omega)).mpr z))] at hK
        exact hK
    | succ d ih =>
      intro i hi hin hK
      refine g_X10_guestFault_2 ?_
      unfold gfl at hK
      rw [e1, e0, if_neg (nI_ge (by omega) (by omega))]
      split
      · rename_i q
        rw [if_pos (Nat.le_of_eq ((nI_eq (by omega) (by omega)).mp q).symm)] at hK
        exact hK
      · rename_i q
        have hne : ¬ n ≤ i := fun z => q (by rw [show i = n by omega])
        rw [if_neg hne] at hK
        refine ⟨vi_nI (by omega) (by decide), d_in ?_⟩
        rw [vI_mI, ite_b, nI_clamp (by omega)]
        have e : tw (μ 62 i) = (decide ((97 : Int32) ≤ μ 62 i ∧ μ 62 i ≤ 122) || decide ((65 : Int32) ≤ μ 62 i ∧ μ 62 i ≤ 74)) := rfl
        have nx : tw (μ 62 i) = true → Tot e_X10_guestFault K 2 [mO 9 55, mI (nI i + 1)] [] μ := fun ht => by
          rw [ht, cond_true] at hK
          have := ih (i + 1) (by omega) (by omega) hK
          rw [← nI_1] at this
          exact this
        cases h1 : decide ((97 : Int32) ≤ μ 62 i ∧ μ 62 i ≤ 122) with
        | true =>
          rw [h1, Bool.true_or] at e
          exact nx e
        | false =>
          rw [h1, Bool.false_or] at e
          rw [cond_false]
          refine ⟨vi_nI (by omega) (by decide), d_in ?_⟩
          rw [vI_mI, ite_b, ← e]
          cases h2 : tw (μ 62 i) with
          | true => exact nx h2
          | false =>
            rw [h2, cond_false] at hK
            exact hK
  exact lp c 0 (by omega) (by omega) h
theorem c_orderFault (hn : n ≤ 6) (hc : c ≤ 48) (e1 : μ 1 1 = nI c) (ep : ∀ i, i < 48 → μ 2 i = p i) (h : K (mI (ofl p n c c 0 0)) μ) : s_X3_orderFault [mO 3 1, mI (nI n)] μ K := by
  refine g_X3_orderFault ?_
  have lp : ∀ (d i : Nat) (m : Int32) (z : MV), i + d = c → (K (mI (ofl p n c d i m)) μ) → Tot e_X3_orderFault K 4 [mO 3 1, mI (nI n), mI m, mI (nI i), z] [] μ := by
    intro d
    induction d with
    | zero =>
      intro i m z hi hK
      have e : i = c := by omega
      subst e
      refine g_X3_orderFault_4 ?_
      rw [e1, if_pos (nI_le (Nat.le_refl _) (by omega))]
      unfold ofl at hK
      split
      · rename_i q
        rw [if_pos ((nI_leI (by omega) (by omega)).mp q)] at hK
        exact hK
      · rename_i q
        rw [if_neg (fun z => q ((nI_leI (by omega) (by omega)).mpr z))] at hK
        exact hK
    | succ d ih =>
      intro i m z hi hK
      refine g_X3_orderFault_4 ?_
      unfold ofl at hK
      rw [e1, if_neg (nI_ge (by omega) (by omega))]
      refine g_X3_sign (c_at (by omega) (by decide) (g_X3_actTold (c_within ?_)))
      rw [vI_mI, vI_mI, vI_mI, vI_mI, ep i (by omega), ite_b]
      have eo : decide (0 ≤ p i - 48 ∧ p i - 48 ≤ nI n - 1) = oky n (p i - 48) := rfl
      rw [eo]
      cases ho : oky n (p i - 48) with
      | false =>
        rw [ho, cond_false] at hK
        exact hK
      | true =>
        rw [ho, cond_true] at hK
        rw [cond_true]
        split
        · rename_i q
          rw [if_neg (by rw [q]; decide)] at hK
          have := ih (i + 1) _ (mI (p i - 48)) (by omega) hK
          rw [← nI_1] at this
          exact this
        · rename_i q
          rw [if_pos (and1_ne0 q)] at hK
          exact hK
  exact lp c 0 0 mU (by omega) h
theorem d_orderFault (hn : n ≤ 6) (hc : c ≤ 48) (e1 : μ 55 13 = nI c) (e0 : μ 55 0 = nI n) (h : K (mI (ofl (μ 62) n c c 0 0)) μ) : s_X10_orderFault [mO 9 55] μ K := by
  refine g_X10_orderFault ?_
  have lp : ∀ (d i : Nat) (m : Int32) (z : MV), i + d = c → (K (mI (ofl (μ 62) n c d i m)) μ) → Tot e_X10_orderFault K 4 [mO 9 55, mI m, mI (nI i), z] [] μ := by
    intro d
    induction d with
    | zero =>
      intro i m z hi hK
      have e : i = c := by omega
      subst e
      refine g_X10_orderFault_4 ?_
      rw [e1, e0, if_pos (nI_le (Nat.le_refl _) (by omega))]
      unfold ofl at hK
      split
      · rename_i q
        rw [if_pos ((nI_leI (by omega) (by omega)).mp q)] at hK
        exact hK
      · rename_i q
        rw [if_neg (fun z => q ((nI_leI (by omega) (by omega)).mpr z))] at hK
        exact hK
    | succ d ih =>
      intro i m z hi hK
      refine g_X10_orderFault_4 ?_
      unfold ofl at hK
      rw [e1, if_neg (nI_ge (by omega) (by omega)), nI_clamp (by omega)]
      refine ⟨vi_nI (by omega) (by decide), d_isAct ?_⟩
      rw [vI_mI, ite_b, e0]
      have eo : decide (0 ≤ μ 62 i - 48 ∧ μ 62 i - 48 ≤ nI n - 1) = oky n (μ 62 i - 48) := rfl
      rw [eo]
      cases ho : oky n (μ 62 i - 48) with
      | false =>
        rw [ho, cond_false] at hK
        exact hK
      | true =>
        rw [ho, cond_true] at hK
        rw [cond_true]
        refine d_has ?_
        rw [vI_mI, ite_b]
        cases hd : decide ((m >>> ((μ 62 i - 48) &&& 31)) &&& 1 = 1) with
        | false =>
          rw [if_neg (of_decide_eq_false hd)] at hK
          have := ih (i + 1) _ (mI (μ 62 i - 48)) (by omega) hK
          rw [← nI_1] at this
          exact this
        | true =>
          rw [if_pos (of_decide_eq_true hd)] at hK
          exact hK
  exact lp c 0 0 mU (by omega) h
end FLT
theorem call_fault {μ : Mm} (r : Rl μ) (a : Int32) : s_X9_fault [mO 8 0, mI a] μ (fun v1 μ1 => s_X10_fault [mO 9 55, mI a] μ1 (fun v2 μ2 => Gd v1 v2 μ2)) := by
  obtain ⟨hp1, ⟨c, hc, hp2⟩, hp3⟩ := r.pp
  have h6 := r.n6
  refine g_X9_fault (c_within ?_)
  rw [vI_mI, ite_b, r.n3]
  cases hd : decide (0 ≤ a ∧ a ≤ 1) with
  | false =>
    have hd := of_decide_eq_false hd
    refine g_X10_fault ?_
    rw [if_neg (fun z => hd (by rw [z]; decide)), if_neg (fun z => hd (by rw [z]; decide))]
    exact ⟨rfl, r⟩
  | true =>
    have hd := of_decide_eq_true hd
    obtain ⟨k, hk, rfl⟩ := nI_btw (n := 1) (by omega) hd.1 hd.2
    have : k = 0 ∨ k = 1 := by omega
    rcases this with rfl | rfl
    · rw [cond_true, if_pos (by decide)]
      refine c_guestFault h6 hc (hp1.trans hp2) hp3 ?_
      refine g_X10_fault ?_
      rw [if_pos (by decide)]
      exact d_guestFault h6 hc hp2 r.n55 ⟨rfl, r⟩
    · rw [cond_true, if_neg (by decide)]
      refine c_orderFault h6 hc (hp1.trans hp2) hp3 ?_
      refine g_X10_fault ?_
      rw [if_neg (by decide), if_pos (by decide)]
      exact d_orderFault h6 hc hp2 r.n55 ⟨rfl, r⟩
