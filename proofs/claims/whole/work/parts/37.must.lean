/-! ===== MUST: what follows through others ===== -/
theorem or64 : ∀ a, a < 64 → ∀ b, b < 64 → a ||| b < 64 ∧ nI a ||| nI b = nI (a ||| b) ∧ ∀ k, k < 6 → bb (nI (a ||| b)) k = (bb (nI a) k || bb (nI b) k) := by decide +kernel
theorem bit64 : ∀ h, h < 6 → 2 ^ h < 64 ∧ (1 : Int32) <<< (nI h &&& 31) = nI (2 ^ h) ∧ ∀ k, k < 6 → bb (nI (2 ^ h)) k = decide (k = h) := by decide +kernel
theorem pth_last {g : Nat → Int32} : ∀ (m x y : Nat), pth g (m + 1) x y → ∃ z, z < 6 ∧ pth g m x z ∧ bb (g z) y = true
  | 0, x, y, ⟨z, hz, e, p⟩ => ⟨z, hz, e, p⟩
  | m + 1, x, y, ⟨z, hz, e, p⟩ => by
    obtain ⟨t, ht, q, e2⟩ := pth_last m z y p
    exact ⟨t, ht, ⟨z, hz, e, q⟩, e2⟩
theorem pth_snoc {g : Nat → Int32} : ∀ (m x z y : Nat), z < 6 → pth g m x z → bb (g z) y = true → pth g (m + 1) x y
  | 0, x, z, y, hz, p, e => ⟨z, hz, p, e⟩
  | m + 1, x, z, y, hz, ⟨t, ht, e1, p⟩, e => ⟨t, ht, e1, pth_snoc m t z y hz p e⟩
theorem pth_tr {g : Nat → Int32} {y z : Nat} (hy : y < 6) : ∀ (m n x : Nat), pth g m x y → pth g n y z → ∃ k, pth g k x z
  | 0, n, x, p, q => ⟨n + 1, y, hy, p, q⟩
  | m + 1, n, x, ⟨t, ht, e, p⟩, q => by
    obtain ⟨k, r⟩ := pth_tr hy m n t p q
    exact ⟨k + 1, t, ht, e, r⟩
/-- how many of the first acts a row holds -/
def cnt (x : Int32) : Nat → Nat
  | 0 => 0
  | k + 1 => cnt x k + (if bb x k = true then 1 else 0)
theorem cnt_le {x y : Int32} : ∀ k, (∀ j, j < k → bb x j = true → bb y j = true) → cnt x k ≤ cnt y k
  | 0, _ => Nat.le_refl 0
  | k + 1, h => by
    have ih := cnt_le k (fun j hj e => h j (by omega) e)
    unfold cnt
    by_cases e : bb x k = true
    · rw [if_pos e, if_pos (h k (by omega) e)]; omega
    · rw [if_neg e]; omega
theorem cnt_lt {x y : Int32} {z : Nat} (hx : ¬ bb x z = true) (hy : bb y z = true) : ∀ k, z < k → (∀ j, j < k → bb x j = true → bb y j = true) → cnt x k < cnt y k
  | 0, hz, _ => absurd hz (Nat.not_lt_zero z)
  | k + 1, hz, h => by
    unfold cnt
    by_cases e : z = k
    · subst e
      have := cnt_le (x := x) (y := y) z (fun j hj e => h j (by omega) e)
      rw [if_neg hx, if_pos hy]
      omega
    · have ih := cnt_lt hx hy k (by omega) (fun j hj e => h j (by omega) e)
      by_cases e2 : bb x k = true
      · rw [if_pos e2, if_pos (h k (by omega) e2)]; omega
      · rw [if_neg e2]; omega
theorem cnt_n {x : Int32} : ∀ k, cnt x k ≤ k
  | 0 => Nat.le_refl 0
  | k + 1 => by
    have := cnt_n (x := x) k
    unfold cnt
    split <;> omega
/-- a way has at most six steps -/
theorem pth_short {n : Nat} {f g : Nat → Int32} (pm : Pm n f g) : ∀ (m x y : Nat), x < 6 → y < 6 → pth g m x y → m + 1 ≤ cnt (f x) 6
  | 0, x, y, hx, hy, p => by
    have e : bb (f x) y = true := (pm.2.2.2.1 x y hx hy).mpr ⟨0, p⟩
    have := cnt_lt (x := 0) (y := f x) (z := y) (by
      have : ∀ y, y < 6 → ¬ bb 0 y = true := by decide
      exact this y hy) e 6 hy (fun j hj z => by
        have : ∀ y, y < 6 → ¬ bb 0 y = true := by decide
        exact absurd z (this j hj))
    omega
  | m + 1, x, y, hx, hy, ⟨z, hz, e, p⟩ => by
    have ih := pth_short pm m z y hz hy p
    have ez : bb (f x) z = true := (pm.2.2.2.1 x z hx hz).mpr ⟨0, e⟩
    have nz : ¬ bb (f z) z = true := by rw [pm.2.2.2.2 z hz]; decide
    have := cnt_lt nz ez 6 hz (fun j hj q => by
      obtain ⟨k, r⟩ := (pm.2.2.2.1 z j hz hj).mp q
      exact (pm.2.2.2.1 x j hx hj).mpr ⟨k + 1, z, hz, e, r⟩)
    omega
theorem pth_5 {n : Nat} {f g : Nat → Int32} (pm : Pm n f g) {m x y : Nat} (hx : x < 6) (hy : y < 6) (p : pth g m x y) : m ≤ 5 := by
  have h1 := pth_short pm m x y hx hy p
  have h2 := cnt_n (x := f x) 6
  omega
