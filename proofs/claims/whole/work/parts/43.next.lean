/-! ===== the next row, on both sides ===== -/
theorem nI_m1 (k : Nat) : nI (k + 1) + (-1) = nI k := by
  rw [← Int32.sub_eq_add_neg]
  exact nI_pred k
theorem nI_m2 (k : Nat) : nI (k + 1) - 2 = nI k + (-1) := by
  rw [nI_succ]
  generalize nI k = x
  grind
def rzM (μ : Mm) (c n : Nat) (f : Nat → Nat) : Mm := mW μ c (Fi (fun k => nI (f k)) (μ c) n)
theorem rzM_at {μ : Mm} {c n : Nat} {f : Nat → Nat} {k : Nat} (h : k < n) : rzM μ c n f c k = nI (f k) := by
  unfold rzM
  rw [mW_eq]
  exact Fi_lt h
theorem rzM_c {μ : Mm} {c n : Nat} {f : Nat → Nat} {c' : Nat} (h : c' ≠ c) : rzM μ c n f c' = μ c' := mW_c h
def rzw (f : Nat → Nat) (i j : Nat) : Nat → Nat := fun k => if k = i then f j else if k = j then f i else f k
theorem rzM_sw {μ : Mm} {c n : Nat} {f : Nat → Nat} {i j : Nat} (hi : i < n) (hj : j < n) : mS (mS (rzM μ c n f) c i (nI (f j))) c j (nI (f i)) = rzM μ c n (rzw f i j) := by
  have e1 : mS (rzM μ c n f) c i (nI (f j)) = mW μ c (fun k => if k = i then nI (f j) else Fi (fun k => nI (f k)) (μ c) n k) := mW_st (if_pos rfl) (fun k hk => if_neg hk)
  rw [e1]
  refine mW_st ?_ (fun k hk => ?_)
  · rw [Fi_lt hj]
    show nI (rzw f i j j) = nI (f i)
    unfold rzw
    by_cases e : j = i
    · rw [if_pos e, e]
    · rw [if_neg e, if_pos rfl]
  · show Fi (fun k => nI (rzw f i j k)) (μ c) n k = if k = i then nI (f j) else Fi (fun k => nI (f k)) (μ c) n k
    by_cases e : k = i
    · rw [if_pos e, e, Fi_lt hi]
      show nI (rzw f i j i) = nI (f j)
      unfold rzw
      rw [if_pos rfl]
    · rw [if_neg e]
      have e2 : rzw f i j k = f k := by
        unfold rzw
        rw [if_neg e, if_neg hk]
      show (if k < n then nI (rzw f i j k) else μ c k) = if k < n then nI (f k) else μ c k
      rw [e2]
/-- what the turning of a row's end leaves -/
def rzR (n i : Nat) (h g : Nat → Nat) : Prop := (∀ k, k ≤ i → g k = h k) ∧ ∀ k, i < k → k < n → g k = h (n + i - k)
def rzQ (n i a b : Nat) (h f : Nat → Nat) : Prop := (∀ k, (i < k ∧ k < a) ∨ (b < k ∧ k < n) → f k = h (n + i - k)) ∧ ∀ k, ¬ ((i < k ∧ k < a) ∨ (b < k ∧ k < n)) → f k = h k
theorem rzQ_end {n i a b : Nat} {h f : Nat → Nat} (q : rzQ n i a b h f) (hi : i < a) (hab : a + b = n + i) (hb : b < n) (hle : b ≤ a) (hl2 : a ≤ b + 1) : rzR n i h f := by
  refine ⟨fun k hk => q.2 k (by omega), fun k h1 h2 => ?_⟩
  by_cases e : (i < k ∧ k < a) ∨ (b < k ∧ k < n)
  · exact q.1 k e
  · rw [q.2 k e]
    congr 1
    omega
theorem rzQ_step {n i a b : Nat} {h f : Nat → Nat} (q : rzQ n i a b h f) (hi : i < a) (hab : a + b = n + i) (hb : b < n) (hlt : a < b) : rzQ n i (a + 1) (b - 1) h (rzw f a b) := by
  refine ⟨fun k hk => ?_, fun k hk => ?_⟩
  · unfold rzw
    by_cases e1 : k = a
    · rw [if_pos e1, q.2 b (by omega)]
      congr 1; omega
    · rw [if_neg e1]
      by_cases e2 : k = b
      · rw [if_pos e2, q.2 a (by omega)]
        congr 1; omega
      · rw [if_neg e2]
        exact q.1 k (by omega)
  · unfold rzw
    rw [if_neg (by omega), if_neg (by omega)]
    exact q.2 k (by omega)
theorem rzQ_0 {n i : Nat} {h : Nat → Nat} : rzQ n i (i + 1) (n - 1) h h := ⟨fun k hk => by omega, fun _ _ => rfl⟩
theorem rzR_next {n i j : Nat} (hn : n ≤ 8) {f g : Nat → Nat} (hp : rzP n f) (hij : i < j) (hj : j < n) (hd : ∀ k, i < k → k + 1 < n → f (k + 1) < f k) (hf : f i < f j) (hb : ∀ k, j < k → k < n → f k < f i) (hr : rzR n i (rzw f i j) g) : rzN n f g := by
  refine rz_next hn hp hij hj hd hf hb (fun k hk => ?_) ?_ (fun k h1 h2 => ?_)
  · rw [hr.1 k (by omega)]
    unfold rzw
    rw [if_neg (by omega), if_neg (by omega)]
  · rw [hr.1 i (by omega)]
    unfold rzw
    rw [if_pos rfl]
  · rw [hr.2 k h1 h2]
    unfold rzw
    rw [if_neg (by omega)]
section NR
variable {μ : Mm} {K : MV → Mm → Prop}
theorem d_change {n : Nat} {f : Nat → Nat} {a b : Nat} (hn : n ≤ 8) (ha : a < n) (hb : b < n) (h : K mU (rzM μ 63 n (rzw f a b))) : s_X10_change [mO 9 55, mI (nI a), mI (nI b)] (rzM μ 63 n f) K := by
  refine g_X10_change ?_
  have ca : (nI a).toNatClampNeg = a := nI_clamp (by omega)
  have cb : (nI b).toNatClampNeg = b := nI_clamp (by omega)
  have va : vi (nI a) 8 := vi_nI (by omega) (by decide)
  have vb : vi (nI b) 8 := vi_nI (by omega) (by decide)
  rw [ca, cb, rzM_at ha, rzM_at hb, rzM_sw ha hb]
  exact ⟨va, vb, va, vb, h⟩
theorem c_swap {n c : Nat} {f : Nat → Nat} {a b : Nat} (hn : n ≤ 6) (ha : a < n) (hb : b < n) (h : K mU (rzM μ c n (rzw f a b))) : s_X5_swap [mA 6 c, mI (nI a), mI (nI b)] (rzM μ c n f) K := by
  refine g_X5_swap (c_at (by omega) (by decide) (c_at (by omega) (by decide) (c_put (by omega) (by decide) (c_put (by omega) (by decide) ?_))))
  rw [vI_mI, vI_mI, rzM_at ha, rzM_at hb, rzM_sw ha hb]
  exact h
theorem d_rev {n i : Nat} {h : Nat → Nat} {l1 l2 l3 : Int32} (hn : n ≤ 8) (hK : ∀ g, rzR n i h g → K (mI 1) (rzM μ 63 n g)) : ∀ (d a b : Nat) (f : Nat → Nat), b ≤ a + d → i < a → b < n → a + b = n + i → a ≤ b + 1 → rzQ n i a b h f → Tot e_X10_nextRow K 78 [mO 9 55, mI l1, mI l2, mI l3, mI (nI a), mI (nI b)] [] (rzM μ 63 n f) := by
  intro d
  induction d with
  | zero =>
    intro a b f hd hi hb hab hle q
    refine g_X10_nextRow_78 ?_
    rw [if_pos (nI_le (by omega) (by omega))]
    exact ⟨zb1, hK f (rzQ_end q hi hab hb (by omega) hle)⟩
  | succ d ih =>
    intro a b f hd hi hb hab hle q
    refine g_X10_nextRow_78 ?_
    by_cases e : b ≤ a
    · rw [if_pos (nI_le e (by omega))]
      exact ⟨zb1, hK f (rzQ_end q hi hab hb e hle)⟩
    · rw [if_neg (nI_ge (by omega) (by omega))]
      refine d_change hn (by omega) hb ?_
      have := ih (a + 1) (b - 1) _ (by omega) (by omega) (by omega) (by omega) (by omega) (rzQ_step q hi hab hb (by omega))
      rw [← nI_1, show nI (b - 1) = nI b + (-1) by rw [← nI_m1 (b - 1), show b - 1 + 1 = b by omega]] at this
      exact this
theorem c_rev {n c i : Nat} {h : Nat → Nat} {l1 l2 l3 : Int32} (hn : n ≤ 6) (hK : ∀ g, rzR n i h g → K (mI 1) (rzM μ c n g)) : ∀ (d a b : Nat) (f : Nat → Nat), b ≤ a + d → i < a → b < n → a + b = n + i → a ≤ b + 1 → rzQ n i a b h f → Tot e_X4_nextByDigits K 79 [mA 6 c, mI l1, mI l2, mI l3, mI (nI a), mI (nI b)] [] (rzM μ c n f) := by
  intro d
  induction d with
  | zero =>
    intro a b f hd hi hb hab hle q
    refine g_X4_nextByDigits_79 ?_
    rw [if_pos (nI_le (by omega) (by omega))]
    exact ⟨zb1, hK f (rzQ_end q hi hab hb (by omega) hle)⟩
  | succ d ih =>
    intro a b f hd hi hb hab hle q
    refine g_X4_nextByDigits_79 ?_
    by_cases e : b ≤ a
    · rw [if_pos (nI_le e (by omega))]
      exact ⟨zb1, hK f (rzQ_end q hi hab hb e hle)⟩
    · rw [if_neg (nI_ge (by omega) (by omega))]
      refine c_swap hn (by omega) hb ?_
      have := ih (a + 1) (b - 1) _ (by omega) (by omega) (by omega) (by omega) (by omega) (rzQ_step q hi hab hb (by omega))
      rw [← nI_1, show nI (b - 1) = nI b + (-1) by rw [← nI_m1 (b - 1), show b - 1 + 1 = b by omega]] at this
      exact this
theorem d_nextRow {n : Nat} {f : Nat → Nat} (hn : n ≤ 8) (hp : rzP n f) (h1 : ∀ g, rzN n f g → K (mI 1) (rzM μ 63 n g)) (h0 : rzE n f → K (mI 0) (rzM μ 63 n f)) : s_X10_nextRow [mO 9 55, mI (nI n)] (rzM μ 63 n f) K := by
  refine g_X10_nextRow ?_
  match n, hn, hp, h1, h0 with
  | 0, _, hp, _, h0 =>
    refine g_X10_nextRow_4 ?_
    rw [if_pos (by decide), if_neg (by decide)]
    exact ⟨zb0, h0 (rz_last (by decide) hp (fun k hk => by omega))⟩
  | m + 1, hn, hp, h1, h0 =>
    have l41 : ∀ (i : Nat), i + 1 ≤ m → f i ≤ f (i + 1) → (∀ k, i < k → k + 1 < m + 1 → f (k + 1) < f k) → ∀ (d j : Nat), j = i + 1 + d → j ≤ m → (∀ k, j < k → k < m + 1 → f k < f i) → Tot e_X10_nextRow K 41 [mO 9 55, mI (nI (m + 1)), mI (nI i), mI (nI j), mU, mU] [] (rzM μ 63 (m + 1) f) := by
      intro i hi hfi hd d
      have fin : ∀ j, i < j → j ≤ m → f i ≤ f j → (∀ k, j < k → k < m + 1 → f k < f i) → s_X10_change [mO 9 55, mI (nI i), mI (nI j)] (rzM μ 63 (m + 1) f) (fun _ μ1 => Tot e_X10_nextRow K 78 [mO 9 55, mI (nI (m + 1)), mI (nI i), mI (nI j), mI (nI i + 1), mI (nI (m + 1) - 1)] [] μ1) := by
        intro j hij hj hle hb
        refine d_change hn (by omega) (by omega) ?_
        have hlt : f i < f j := Nat.lt_of_le_of_ne hle (hp.ne hij (by omega))
        have := d_rev (μ := μ) (K := K) (n := m + 1) (i := i) (h := rzw f i j) (l1 := nI (m + 1)) (l2 := nI i) (l3 := nI j) hn (fun g hr => h1 g (rzR_next hn hp hij (by omega) hd hlt hb hr)) (m + 1) (i + 1) m (rzw f i j) (by omega) (by omega) (by omega) (by omega) (by omega) (rzQ_0 (n := m + 1))
        rw [nI_1, nI_pred]
        exact this
      induction d with
      | zero =>
        intro j hj hjm hb
        refine g_X10_nextRow_41 ?_
        rw [nI_clamp (by omega), nI_clamp (by omega), rzM_at (by omega), rzM_at (by omega)]
        refine ⟨vi_nI (by omega) (by decide), vi_nI (by omega) (by decide), ?_⟩
        have hle : f i ≤ f j := by rw [hj]; exact hfi
        have hj8 := hp.lt (k := j) (by omega)
        rw [if_pos (nI_le hle (by omega))]
        exact fin j (by omega) hjm hle hb
      | succ d ih =>
        intro j hj hjm hb
        refine g_X10_nextRow_41 ?_
        rw [nI_clamp (by omega), nI_clamp (by omega), rzM_at (by omega), rzM_at (by omega)]
        refine ⟨vi_nI (by omega) (by decide), vi_nI (by omega) (by decide), ?_⟩
        have hj8 := hp.lt (k := j) (by omega)
        have hi8 := hp.lt (k := i) (by omega)
        by_cases hle : f i ≤ f j
        · rw [if_pos (nI_le hle (by omega))]
          exact fin j (by omega) hjm hle hb
        · rw [if_neg (nI_ge (by omega) (by omega))]
          have := ih (j - 1) (by omega) (by omega) (fun k hk1 hk2 => by
            by_cases e : k = j
            · rw [e]; omega
            · exact hb k (by omega) hk2)
          rw [show nI (j - 1) = nI j + (-1) by rw [← nI_m1 (j - 1), show j - 1 + 1 = j by omega]] at this
          exact this
    have l4 : ∀ k, k ≤ m → (∀ q, k ≤ q → q + 1 < m + 1 → f (q + 1) < f q) → Tot e_X10_nextRow K 4 [mO 9 55, mI (nI (m + 1)), mI (nI k + (-1)), mU, mU, mU] [] (rzM μ 63 (m + 1) f) := by
      intro k
      induction k with
      | zero =>
        intro _ hd
        refine g_X10_nextRow_4 ?_
        rw [if_pos (show nI 0 + (-1) < 0 by decide), if_neg (show ¬ 0 ≤ nI 0 + (-1) by decide)]
        exact ⟨zb0, h0 (rz_last hn hp (fun q hq => hd q (Nat.zero_le q) hq))⟩
      | succ k ih =>
        intro hk hd
        refine g_X10_nextRow_4 ?_
        have hk8 := hp.lt (k := k) (by omega)
        have hk9 := hp.lt (k := k + 1) (by omega)
        rw [nI_m1, if_neg (nI_pos (by omega)), nI_1, nI_clamp (by omega), nI_clamp (by omega), rzM_at (by omega), rzM_at (by omega)]
        refine ⟨vi_nI (by omega) (by decide), vi_nI (by omega) (by decide), ?_⟩
        by_cases hle : f k ≤ f (k + 1)
        · rw [if_pos (nI_le hle (by omega)), if_pos (nI_pos' (by omega)), nI_pred]
          exact l41 k hk hle (fun q hq hq2 => hd q (by omega) hq2) (m - (k + 1)) m (by omega) (Nat.le_refl _) (fun q hq hq2 => by omega)
        · rw [if_neg (nI_ge (by omega) (by omega))]
          exact ih (by omega) (fun q hq hq2 => by
            by_cases e : q = k
            · rw [e]; omega
            · exact hd q (by omega) hq2)
    rw [nI_m2]
    exact l4 m (Nat.le_refl _) (fun q hq hq2 => by omega)
theorem c_nextRow {n c : Nat} {f : Nat → Nat} (hn : n ≤ 6) (hp : rzP n f) (h1 : ∀ g, rzN n f g → K (mI 1) (rzM μ c n g)) (h0 : rzE n f → K (mI 0) (rzM μ c n f)) : s_X4_nextByDigits [mA 6 c, mI (nI n)] (rzM μ c n f) K := by
  refine g_X4_nextByDigits ?_
  match n, hn, hp, h1, h0 with
  | 0, _, hp, _, h0 =>
    refine g_X4_nextByDigits_4 ?_
    rw [if_pos (by decide), if_neg (by decide)]
    exact ⟨zb0, h0 (rz_last (by decide) hp (fun k hk => by omega))⟩
  | m + 1, hn, hp, h1, h0 =>
    have l41 : ∀ (i : Nat), i + 1 ≤ m → f i ≤ f (i + 1) → (∀ k, i < k → k + 1 < m + 1 → f (k + 1) < f k) → ∀ (d j : Nat), j = i + 1 + d → j ≤ m → (∀ k, j < k → k < m + 1 → f k < f i) → Tot e_X4_nextByDigits K 39 [mA 6 c, mI (nI (m + 1)), mI (nI i), mI (nI j), mU, mU] [] (rzM μ c (m + 1) f) := by
      intro i hi hfi hd d
      have fin : ∀ j, i < j → j ≤ m → f i ≤ f j → (∀ k, j < k → k < m + 1 → f k < f i) → s_X5_swap [mA 6 c, mI (nI i), mI (nI j)] (rzM μ c (m + 1) f) (fun _ μ1 => Tot e_X4_nextByDigits K 79 [mA 6 c, mI (nI (m + 1)), mI (nI i), mI (nI j), mI (nI i + 1), mI (nI (m + 1) - 1)] [] μ1) := by
        intro j hij hj hle hb
        refine c_swap hn (by omega) (by omega) ?_
        have hlt : f i < f j := Nat.lt_of_le_of_ne hle (hp.ne hij (by omega))
        have := c_rev (μ := μ) (K := K) (n := m + 1) (c := c) (i := i) (h := rzw f i j) (l1 := nI (m + 1)) (l2 := nI i) (l3 := nI j) hn (fun g hr => h1 g (rzR_next (by omega) hp hij (by omega) hd hlt hb hr)) (m + 1) (i + 1) m (rzw f i j) (by omega) (by omega) (by omega) (by omega) (by omega) (rzQ_0 (n := m + 1))
        rw [nI_1, nI_pred]
        exact this
      induction d with
      | zero =>
        intro j hj hjm hb
        refine g_X4_nextByDigits_39 ?_
        have hle : f i ≤ f j := by rw [hj]; exact hfi
        have hj8 := hp.lt (k := j) (by omega)
        rw [if_neg (nI_ge (by omega) (by omega))]
        refine c_at (by omega) (by decide) (c_at (by omega) (by decide) ?_)
        rw [vI_mI, vI_mI, rzM_at (by omega), rzM_at (by omega), if_pos (nI_le hle (by omega))]
        exact fin j (by omega) hjm hle hb
      | succ d ih =>
        intro j hj hjm hb
        refine g_X4_nextByDigits_39 ?_
        have hj8 := hp.lt (k := j) (by omega)
        have hi8 := hp.lt (k := i) (by omega)
        rw [if_neg (nI_ge (by omega) (by omega))]
        refine c_at (by omega) (by decide) (c_at (by omega) (by decide) ?_)
        rw [vI_mI, vI_mI, rzM_at (by omega), rzM_at (by omega)]
        by_cases hle : f i ≤ f j
        · rw [if_pos (nI_le hle (by omega))]
          exact fin j (by omega) hjm hle hb
        · rw [if_neg (nI_ge (by omega) (by omega))]
          have := ih (j - 1) (by omega) (by omega) (fun k hk1 hk2 => by
            by_cases e : k = j
            · rw [e]; omega
            · exact hb k (by omega) hk2)
          rw [show nI (j - 1) = nI j + (-1) by rw [← nI_m1 (j - 1), show j - 1 + 1 = j by omega]] at this
          exact this
    have l4 : ∀ k, k ≤ m → (∀ q, k ≤ q → q + 1 < m + 1 → f (q + 1) < f q) → Tot e_X4_nextByDigits K 4 [mA 6 c, mI (nI (m + 1)), mI (nI k + (-1)), mU, mU, mU] [] (rzM μ c (m + 1) f) := by
      intro k
      induction k with
      | zero =>
        intro _ hd
        refine g_X4_nextByDigits_4 ?_
        rw [if_pos (show nI 0 + (-1) < 0 by decide), if_neg (show ¬ 0 ≤ nI 0 + (-1) by decide)]
        exact ⟨zb0, h0 (rz_last (by omega) hp (fun q hq => hd q (Nat.zero_le q) hq))⟩
      | succ k ih =>
        intro hk hd
        refine g_X4_nextByDigits_4 ?_
        have hk8 := hp.lt (k := k) (by omega)
        have hk9 := hp.lt (k := k + 1) (by omega)
        rw [nI_m1, if_neg (nI_pos (by omega)), nI_1]
        refine c_at (by omega) (by decide) (c_at (by omega) (by decide) ?_)
        rw [vI_mI, vI_mI, rzM_at (by omega), rzM_at (by omega)]
        by_cases hle : f k ≤ f (k + 1)
        · rw [if_pos (nI_le hle (by omega)), if_pos (nI_pos' (by omega)), nI_pred]
          exact l41 k hk hle (fun q hq hq2 => hd q (by omega) hq2) (m - (k + 1)) m (by omega) (Nat.le_refl _) (fun q hq hq2 => by omega)
        · rw [if_neg (nI_ge (by omega) (by omega))]
          exact ih (by omega) (fun q hq hq2 => by
            by_cases e : q = k
            · rw [e]; omega
            · exact hd q (by omega) hq2)
    rw [nI_m2]
    exact l4 m (Nat.le_refl _) (fun q hq hq2 => by omega)
end NR
