/-! ===== two houses: who goes over when ===== -/
def sth (v : Vw) (e : Nat) (k : Nat) : Int32 := sumN (fun j => v 3 (e + j)) k
/-- what a guest has who has e acts here, then k there -/
def val (v : Vw) (g e k : Nat) : Int32 := sw v g e - fr (v 0 2) (v 0 3) e + (sth v e k - fr (v 0 5) (v 0 3) k)
abbrev T3 : Type := Int32 × Nat × Nat
def inn (v : Vw) (g e : Nat) (s : T3) : Nat → T3
  | 0 => s
  | k + 1 => if val v g e k ≤ (inn v g e s k).1 then inn v g e s k else (val v g e k, e, e + k)
def out (v : Vw) (g : Nat) : Nat → T3
  | 0 => (0, 0, 0)
  | e + 1 => inn v g e (out v g e) (nA v - e + 1)
def OV (v : Vw) (g : Nat) : T3 := out v g (nA v + 1)
theorem val_00 (v : Vw) (g : Nat) : val v g 0 0 = 0 := by
  unfold val
  rw [sw0, fr_0]
  show (0 : Int32) + (0 - 0) = 0
  decide
theorem inn_b {v : Vw} {g e : Nat} {s : T3} {n : Nat} (hs : s.2.1 ≤ s.2.2 ∧ s.2.2 ≤ n) : ∀ k, e + k ≤ n + 1 → (inn v g e s k).2.1 ≤ (inn v g e s k).2.2 ∧ (inn v g e s k).2.2 ≤ n
  | 0, _ => hs
  | k + 1, h => by
    unfold inn
    split
    · exact inn_b hs k (by omega)
    · exact ⟨by show e ≤ e + k; omega, by show e + k ≤ n; omega⟩
theorem out_b {v : Vw} {g : Nat} : ∀ e, e ≤ nA v + 1 → (out v g e).2.1 ≤ (out v g e).2.2 ∧ (out v g e).2.2 ≤ nA v
  | 0, _ => ⟨Nat.le_refl 0, Nat.zero_le _⟩
  | e + 1, h => by
    unfold out
    exact inn_b (out_b e (by omega)) _ (by omega)
theorem OV_b {v : Vw} {g : Nat} : (OV v g).2.1 ≤ (OV v g).2.2 ∧ (OV v g).2.2 ≤ nA v := out_b _ (Nat.le_refl _)
theorem c_at_any {μ : Mm} {K : MV → Mm → Prop} {n c i : Nat} (hn : n < 2 ^ 31) (h : ∀ x, K (mI x) μ) : s_X5_at [mA n c, mI (nI i)] μ K := by
  refine g_X5_at ?_
  split
  · exact h _
  · rename_i q
    split
    · exact h _
    · rename_i q2
      refine ⟨?_, h _⟩
      have h1 := Int32.not_lt.mp q
      have h2 := Int32.not_le.mp q2
      unfold vi
      rw [Int32.le_iff_toInt_le] at h1
      rw [Int32.lt_iff_toInt_lt, nI_toInt hn] at h2
      exact ⟨h1, h2⟩
theorem c_wp_any {μ : Mm} {K : MV → Mm → Prop} {c g e : Nat} (hw : Wb (vS μ c)) (hg : g < 8) (he : e ≤ 6) (h : ∀ x, K (mI x) μ) : s_X8_worthPlayed [mO 7 c, mI (nI g), mI (nI e)] μ K := by
  by_cases h6 : e < 6
  · exact c_worthPlayed hw hg h6 (h _)
  · have : e = 6 := by omega
    subst this
    refine g_X8_worthPlayed (c_at_out (Or.inr (nI_le (Nat.le_refl _) (by omega))) ?_)
    rw [vI_mI, show nI g * 6 + 0 = nI (6 * g + 0) from lit6' g 0]
    exact c_at_any (by decide) h
def mT (μ : Mm) (c i k : Nat) (s : T3) : Mm := mS (mS μ c i (nI s.2.1)) c k (nI s.2.2)
theorem mT_mT {μ : Mm} {c i k : Nat} {s : T3} {e f : Nat} {x : Int32} (h : i ≠ k) : mS (mS (mT μ c i k s) c i (nI e)) c k (nI f) = mT μ c i k (x, e, f) := by
  unfold mT
  rw [mS_comm (c := c) (k := k) (c' := c) (k' := i) (fun z => h z.2.symm), mS_mS, mS_mS]
theorem mT_c {μ : Mm} {c i k : Nat} {s : T3} {c' : Nat} (h : c' ≠ c) : mT μ c i k s c' = μ c' := by
  unfold mT
  rw [mS_c h, mS_c h]
theorem c_send {μ : Mm} {K : MV → Mm → Prop} {c g : Nat} (hw : Wb (vS μ c)) (hc : ∀ d, d ≤ 9 → c + d ≠ 50) (hg : g < 8) (hK : K mU (mT μ 50 0 1 (OV (vS μ c) g))) : s_X1_send [mO 1 50, mO 7 c, mI (nI g)] μ K := by
  refine g_X1_send ?_
  have hn : μ c 0 = nI (nA (vS μ c)) := hw.1.2.2
  have h6 := hw.1.2.1
  have hc0 : c ≠ 50 := hc 0 (by omega)
  have ev : ∀ s, vS (mT μ 50 0 1 s) c = vS μ c := fun s => vS_congr fun d hd => mT_c (hc d hd)
  have rd : ∀ s, mT μ 50 0 1 s c = μ c := fun s => mT_c hc0
  -- one row: from f on
  have lin : ∀ (d k e : Nat) (x l4 : Int32), e ≤ nA (vS μ c) → k + d = nA (vS μ c) - e + 1 → (k ≤ nA (vS μ c) - e → x = val (vS μ c) g e k) → (∀ y : Int32, ∀ z, Tot e_X1_send K 18 [mO 1 50, mO 7 c, mI (nI g), mI (inn (vS μ c) g e (out (vS μ c) g e) (nA (vS μ c) - e + 1)).1, mI (if e < nA (vS μ c) then l4 + (wp (vS μ c) g e - μ c 1 - nI e * μ c 2) else y), mI (nI (e + 1)), mI z, mI (nI (nA (vS μ c) + 1))] [] (mT μ 50 0 1 (inn (vS μ c) g e (out (vS μ c) g e) (nA (vS μ c) - e + 1)))) → Tot e_X1_send K 35 [mO 1 50, mO 7 c, mI (nI g), mI (inn (vS μ c) g e (out (vS μ c) g e) k).1, mI l4, mI (nI e), mI x, mI (nI (e + k))] [] (mT μ 50 0 1 (inn (vS μ c) g e (out (vS μ c) g e) k)) := by
    intro d
    induction d with
    | zero =>
      intro k e x l4 he hk hx hnext
      have ek : k = nA (vS μ c) - e + 1 := by omega
      refine g_X1_send_35 ?_
      rw [rd, hn, if_pos (nI_lt (by omega) (by omega))]
      by_cases hen : e < nA (vS μ c)
      · refine c_worthPlayed (by rw [ev]; exact hw) hg (by omega) ?_
        have := hnext 0 x
        rw [if_pos hen, ← ek, ← nI_1, show nA (vS μ c) + 1 = e + k by omega] at this
        rw [vI_mI, ev, rd]
        exact this
      · refine c_wp_any (by rw [ev]; exact hw) hg (by omega) fun y => ?_
        have := hnext (l4 + (y - μ c 1 - nI e * μ c 2)) x
        rw [if_neg hen, ← ek, ← nI_1, show nA (vS μ c) + 1 = e + k by omega] at this
        rw [vI_mI, rd]
        exact this
    | succ d ih =>
      intro k e x l4 he hk hx hnext
      have hx := hx (by omega)
      subst hx
      refine g_X1_send_35 ?_
      rw [rd, hn, if_neg (nI_nlt (by omega) (by omega))]
      -- the next sum
      have hnx : k + 1 ≤ nA (vS μ c) - e → val (vS μ c) g e k + (μ (c + 3) (e + k) - μ c 4 - (nI (e + k) - nI e) * μ c 2) = val (vS μ c) g e (k + 1) := by
        intro hk1
        have e1 : nI (e + k) - nI e = nI k := nI_sub0 e k
        have e3 : vS μ c 3 (e + k) = μ (c + 3) (e + k) := tr_at (f := μ (c + 3)) (by omega)
        have es : sth (vS μ c) e (k + 1) = sth (vS μ c) e k + vS μ c 3 (e + k) := rfl
        have ef := fr_succ (μ c 4) (μ c 2) (k := k) (by omega)
        unfold val
        rw [es, e3, e1]
        show sw (vS μ c) g e - fr (μ c 1) (μ c 2) e + (sth (vS μ c) e k - fr (μ c 4) (μ c 2) k) + _ = sw (vS μ c) g e - fr (μ c 1) (μ c 2) e + (_ - fr (μ c 4) (μ c 2) (k + 1))
        rw [ef]
        generalize sw (vS μ c) g e - fr (μ c 1) (μ c 2) e = A
        generalize sth (vS μ c) e k = B
        generalize fr (μ c 4) (μ c 2) k = C
        generalize nI k * μ c 2 = E
        generalize μ (c + 3) (e + k) = F
        generalize μ c 4 = G
        grind
      have hi : inn (vS μ c) g e (out (vS μ c) g e) (k + 1) = if val (vS μ c) g e k ≤ (inn (vS μ c) g e (out (vS μ c) g e) k).1 then inn (vS μ c) g e (out (vS μ c) g e) k else (val (vS μ c) g e k, e, e + k) := rfl
      have go : ∀ (s : T3) (y : Int32), s = inn (vS μ c) g e (out (vS μ c) g e) (k + 1) → (k + 1 ≤ nA (vS μ c) - e → y = μ (c + 3) (e + k)) → Tot e_X1_send K 35 [mO 1 50, mO 7 c, mI (nI g), mI s.1, mI l4, mI (nI e), mI (val (vS μ c) g e k + (y - μ c 4 - (nI (e + k) - nI e) * μ c 2)), mI (nI (e + k) + 1)] [] (mT μ 50 0 1 s) := by
        intro s y hs hy
        have := ih (k + 1) e (val (vS μ c) g e k + (y - μ c 4 - (nI (e + k) - nI e) * μ c 2)) l4 he (by omega) (fun hk1 => by rw [hy hk1]; exact hnx hk1) hnext
        rw [← hs, ← Nat.add_assoc, ← nI_1] at this
        exact this
      have at3 : ∀ (s : T3) (K' : MV → Mm → Prop), (∀ y, (k + 1 ≤ nA (vS μ c) - e → y = μ (c + 3) (e + k)) → K' (mI y) (mT μ 50 0 1 s)) → s_X5_at [mA 6 (c + 3), mI (nI (e + k))] (mT μ 50 0 1 s) K' := by
        intro s K' h
        by_cases hk1 : k + 1 ≤ nA (vS μ c) - e
        · refine c_at (by omega) (by decide) ?_
          rw [mT_c (hc 3 (by omega))]
          exact h _ (fun _ => rfl)
        · exact c_at_any (by decide) (fun x => h x (fun z => absurd z hk1))
      split
      · rename_i q
        rw [if_pos q] at hi
        refine at3 _ _ fun y hy => ?_
        rw [vI_mI, rd]
        exact go _ y hi.symm hy
      · rename_i q
        rw [if_neg q] at hi
        rw [mT_mT (x := val (vS μ c) g e k) (by decide)]
        refine at3 _ _ fun y hy => ?_
        rw [vI_mI, rd]
        exact go (val (vS μ c) g e k, e, e + k) y hi.symm hy
  have lout : ∀ (d e : Nat) (l4 : Int32) (z6 z7 : MV), e + d = nA (vS μ c) + 1 → (e ≤ nA (vS μ c) → l4 = sw (vS μ c) g e - fr (μ c 1) (μ c 2) e) → Tot e_X1_send K 18 [mO 1 50, mO 7 c, mI (nI g), mI (out (vS μ c) g e).1, mI l4, mI (nI e), z6, z7] [] (mT μ 50 0 1 (out (vS μ c) g e)) := by
    intro d
    induction d with
    | zero =>
      intro e l4 z6 z7 he hl
      have ee : e = nA (vS μ c) + 1 := by omega
      refine g_X1_send_18 ?_
      rw [rd, hn, if_pos (by rw [ee]; exact nI_lt (by omega) (by omega)), ee]
      exact hK
    | succ d ih =>
      intro e l4 z6 z7 he hl
      have hl := hl (by omega)
      refine g_X1_send_18 ?_
      rw [rd, hn, if_neg (nI_nlt (by omega) (by omega))]
      refine lin (nA (vS μ c) - e + 1) 0 e l4 l4 (by omega) (by omega) (fun _ => ?_) (fun y z => ?_)
      · rw [hl]
        unfold val
        show _ = _ + (sumN _ 0 - fr _ _ 0)
        rw [fr_0]
        show _ = sw (vS μ c) g e - fr (μ c 1) (μ c 2) e + ((0 : Int32) - 0)
        grind
      · refine ih (e + 1) _ _ _ (by omega) fun he1 => ?_
        rw [if_pos (by omega), hl, fr_succ _ _ (by omega)]
        show _ = sw (vS μ c) g e + wp (vS μ c) g e - _
        generalize sw (vS μ c) g e = A
        generalize fr (μ c 1) (μ c 2) e = B
        generalize wp (vS μ c) g e = C
        generalize nI e * μ c 2 = E
        generalize μ c 1 = F
        grind
  have := lout (nA (vS μ c) + 1) 0 0 mU mU (by omega) (fun _ => sw0.symm)
  exact this
