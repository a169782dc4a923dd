/-! ===== FARES that bring most, CLAQUE ===== -/
theorem vS_base {μ : Mm} {c : Nat} {x : Int32} : vS (mS μ c 1 x) c = mS (vS μ c) 0 2 x := by
  funext r i
  by_cases e : r = 0 ∧ i = 2
  · rw [e.1, e.2, mS_eq]
    show mS μ c 1 x c 1 = x
    exact mS_eq
  · rw [mS_ne e]
    match r with
    | 0 =>
      match i with
      | 0 => show mS μ c 1 x c 0 = μ c 0; exact mS_k (by decide)
      | 1 => show mS μ c 1 x c 5 = μ c 5; exact mS_k (by decide)
      | 2 => exact absurd ⟨rfl, rfl⟩ e
      | 3 => show mS μ c 1 x c 2 = μ c 2; exact mS_k (by decide)
      | 4 => show mS μ c 1 x c 3 = μ c 3; exact mS_k (by decide)
      | 5 => show mS μ c 1 x c 4 = μ c 4; exact mS_k (by decide)
      | 6 => show mS μ c 1 x (c + 6) 0 = μ (c + 6) 0; rw [mS_c (by omega)]
      | i + 7 => rfl
    | 1 => show tr 48 (mS μ c 1 x (c + 2)) i = tr 48 (μ (c + 2)) i; rw [mS_c (by omega)]
    | 2 => show tr 6 (mS μ c 1 x (c + 1)) i = tr 6 (μ (c + 1)) i; rw [mS_c (by omega)]
    | 3 => show tr 6 (mS μ c 1 x (c + 3)) i = tr 6 (μ (c + 3)) i; rw [mS_c (by omega)]
    | 4 => show tr 8 (mS μ c 1 x (c + 5)) i = tr 8 (μ (c + 5)) i; rw [mS_c (by omega)]
    | 5 => show tr 6 (mS μ c 1 x (c + 7)) i = tr 6 (μ (c + 7)) i; rw [mS_c (by omega)]
    | 6 => show tr 6 (mS μ c 1 x (c + 8)) i = tr 6 (μ (c + 8)) i; rw [mS_c (by omega)]
    | 7 => show tr 6 (mS μ c 1 x (c + 9)) i = tr 6 (μ (c + 9)) i; rw [mS_c (by omega)]
    | r + 8 => rfl
theorem vS_step {μ : Mm} {c : Nat} {x : Int32} : vS (mS μ c 2 x) c = mS (vS μ c) 0 3 x := by
  funext r i
  by_cases e : r = 0 ∧ i = 3
  · rw [e.1, e.2, mS_eq]
    show mS μ c 2 x c 2 = x
    exact mS_eq
  · rw [mS_ne e]
    match r with
    | 0 =>
      match i with
      | 0 => show mS μ c 2 x c 0 = μ c 0; exact mS_k (by decide)
      | 1 => show mS μ c 2 x c 5 = μ c 5; exact mS_k (by decide)
      | 2 => show mS μ c 2 x c 1 = μ c 1; exact mS_k (by decide)
      | 3 => exact absurd ⟨rfl, rfl⟩ e
      | 4 => show mS μ c 2 x c 3 = μ c 3; exact mS_k (by decide)
      | 5 => show mS μ c 2 x c 4 = μ c 4; exact mS_k (by decide)
      | 6 => show mS μ c 2 x (c + 6) 0 = μ (c + 6) 0; rw [mS_c (by omega)]
      | i + 7 => rfl
    | 1 => show tr 48 (mS μ c 2 x (c + 2)) i = tr 48 (μ (c + 2)) i; rw [mS_c (by omega)]
    | 2 => show tr 6 (mS μ c 2 x (c + 1)) i = tr 6 (μ (c + 1)) i; rw [mS_c (by omega)]
    | 3 => show tr 6 (mS μ c 2 x (c + 3)) i = tr 6 (μ (c + 3)) i; rw [mS_c (by omega)]
    | 4 => show tr 8 (mS μ c 2 x (c + 5)) i = tr 8 (μ (c + 5)) i; rw [mS_c (by omega)]
    | 5 => show tr 6 (mS μ c 2 x (c + 7)) i = tr 6 (μ (c + 7)) i; rw [mS_c (by omega)]
    | 6 => show tr 6 (mS μ c 2 x (c + 8)) i = tr 6 (μ (c + 8)) i; rw [mS_c (by omega)]
    | 7 => show tr 6 (mS μ c 2 x (c + 9)) i = tr 6 (μ (c + 9)) i; rw [mS_c (by omega)]
    | r + 8 => rfl
theorem vS_there {μ : Mm} {c : Nat} {x : Int32} : vS (mS μ c 4 x) c = mS (vS μ c) 0 5 x := by
  funext r i
  by_cases e : r = 0 ∧ i = 5
  · rw [e.1, e.2, mS_eq]
    show mS μ c 4 x c 4 = x
    exact mS_eq
  · rw [mS_ne e]
    match r with
    | 0 =>
      match i with
      | 0 => show mS μ c 4 x c 0 = μ c 0; exact mS_k (by decide)
      | 1 => show mS μ c 4 x c 5 = μ c 5; exact mS_k (by decide)
      | 2 => show mS μ c 4 x c 1 = μ c 1; exact mS_k (by decide)
      | 3 => show mS μ c 4 x c 2 = μ c 2; exact mS_k (by decide)
      | 4 => show mS μ c 4 x c 3 = μ c 3; exact mS_k (by decide)
      | 5 => exact absurd ⟨rfl, rfl⟩ e
      | 6 => show mS μ c 4 x (c + 6) 0 = μ (c + 6) 0; rw [mS_c (by omega)]
      | i + 7 => rfl
    | 1 => show tr 48 (mS μ c 4 x (c + 2)) i = tr 48 (μ (c + 2)) i; rw [mS_c (by omega)]
    | 2 => show tr 6 (mS μ c 4 x (c + 1)) i = tr 6 (μ (c + 1)) i; rw [mS_c (by omega)]
    | 3 => show tr 6 (mS μ c 4 x (c + 3)) i = tr 6 (μ (c + 3)) i; rw [mS_c (by omega)]
    | 4 => show tr 8 (mS μ c 4 x (c + 5)) i = tr 8 (μ (c + 5)) i; rw [mS_c (by omega)]
    | 5 => show tr 6 (mS μ c 4 x (c + 7)) i = tr 6 (μ (c + 7)) i; rw [mS_c (by omega)]
    | 6 => show tr 6 (mS μ c 4 x (c + 8)) i = tr 6 (μ (c + 8)) i; rw [mS_c (by omega)]
    | 7 => show tr 6 (mS μ c 4 x (c + 9)) i = tr 6 (μ (c + 9)) i; rw [mS_c (by omega)]
    | r + 8 => rfl
theorem vM_base {μ : Mm} {x : Int32} : vM (mS μ 55 2 x) = mS (vM μ) 0 2 x := by
  funext r i
  by_cases e : r = 0 ∧ i = 2
  · rw [e.1, e.2, mS_eq]
    show mS μ 55 2 x 55 2 = x
    exact mS_eq
  · rw [mS_ne e]
    match r with
    | 0 =>
      match i with
      | 0 => show mS μ 55 2 x 55 0 = μ 55 0; exact mS_k (by decide)
      | 1 => show mS μ 55 2 x 55 1 = μ 55 1; exact mS_k (by decide)
      | 2 => exact absurd ⟨rfl, rfl⟩ e
      | 3 => show mS μ 55 2 x 55 3 = μ 55 3; exact mS_k (by decide)
      | 4 => show mS μ 55 2 x 55 4 = μ 55 4; exact mS_k (by decide)
      | 5 => show mS μ 55 2 x 55 5 = μ 55 5; exact mS_k (by decide)
      | 6 => show mS μ 55 2 x 55 11 = μ 55 11; exact mS_k (by decide)
      | i + 7 => rfl
    | 1 => show tr 48 (mS μ 55 2 x 56) i = tr 48 (μ 56) i; rw [mS_c (by decide)]
    | 2 => show tr 6 (mS μ 55 2 x 57) i = tr 6 (μ 57) i; rw [mS_c (by decide)]
    | 3 => show tr 6 (mS μ 55 2 x 59) i = tr 6 (μ 59) i; rw [mS_c (by decide)]
    | 4 => show tr 8 (mS μ 55 2 x 60) i = tr 8 (μ 60) i; rw [mS_c (by decide)]
    | 5 => show tr 6 (fun i => mS μ 55 2 x 61 (3 * i)) i = tr 6 (fun i => μ 61 (3 * i)) i; rw [mS_c (by decide)]
    | 6 => show tr 6 (fun i => mS μ 55 2 x 61 (3 * i + 1)) i = tr 6 (fun i => μ 61 (3 * i + 1)) i; rw [mS_c (by decide)]
    | 7 => show tr 6 (fun i => mS μ 55 2 x 61 (3 * i + 2)) i = tr 6 (fun i => μ 61 (3 * i + 2)) i; rw [mS_c (by decide)]
    | r + 8 => rfl
theorem vM_step {μ : Mm} {x : Int32} : vM (mS μ 55 3 x) = mS (vM μ) 0 3 x := by
  funext r i
  by_cases e : r = 0 ∧ i = 3
  · rw [e.1, e.2, mS_eq]
    show mS μ 55 3 x 55 3 = x
    exact mS_eq
  · rw [mS_ne e]
    match r with
    | 0 =>
      match i with
      | 0 => show mS μ 55 3 x 55 0 = μ 55 0; exact mS_k (by decide)
      | 1 => show mS μ 55 3 x 55 1 = μ 55 1; exact mS_k (by decide)
      | 2 => show mS μ 55 3 x 55 2 = μ 55 2; exact mS_k (by decide)
      | 3 => exact absurd ⟨rfl, rfl⟩ e
      | 4 => show mS μ 55 3 x 55 4 = μ 55 4; exact mS_k (by decide)
      | 5 => show mS μ 55 3 x 55 5 = μ 55 5; exact mS_k (by decide)
      | 6 => show mS μ 55 3 x 55 11 = μ 55 11; exact mS_k (by decide)
      | i + 7 => rfl
    | 1 => show tr 48 (mS μ 55 3 x 56) i = tr 48 (μ 56) i; rw [mS_c (by decide)]
    | 2 => show tr 6 (mS μ 55 3 x 57) i = tr 6 (μ 57) i; rw [mS_c (by decide)]
    | 3 => show tr 6 (mS μ 55 3 x 59) i = tr 6 (μ 59) i; rw [mS_c (by decide)]
    | 4 => show tr 8 (mS μ 55 3 x 60) i = tr 8 (μ 60) i; rw [mS_c (by decide)]
    | 5 => show tr 6 (fun i => mS μ 55 3 x 61 (3 * i)) i = tr 6 (fun i => μ 61 (3 * i)) i; rw [mS_c (by decide)]
    | 6 => show tr 6 (fun i => mS μ 55 3 x 61 (3 * i + 1)) i = tr 6 (fun i => μ 61 (3 * i + 1)) i; rw [mS_c (by decide)]
    | 7 => show tr 6 (fun i => mS μ 55 3 x 61 (3 * i + 2)) i = tr 6 (fun i => μ 61 (3 * i + 2)) i; rw [mS_c (by decide)]
    | r + 8 => rfl
theorem vM_there {μ : Mm} {x : Int32} : vM (mS μ 55 5 x) = mS (vM μ) 0 5 x := by
  funext r i
  by_cases e : r = 0 ∧ i = 5
  · rw [e.1, e.2, mS_eq]
    show mS μ 55 5 x 55 5 = x
    exact mS_eq
  · rw [mS_ne e]
    match r with
    | 0 =>
      match i with
      | 0 => show mS μ 55 5 x 55 0 = μ 55 0; exact mS_k (by decide)
      | 1 => show mS μ 55 5 x 55 1 = μ 55 1; exact mS_k (by decide)
      | 2 => show mS μ 55 5 x 55 2 = μ 55 2; exact mS_k (by decide)
      | 3 => show mS μ 55 5 x 55 3 = μ 55 3; exact mS_k (by decide)
      | 4 => show mS μ 55 5 x 55 4 = μ 55 4; exact mS_k (by decide)
      | 5 => exact absurd ⟨rfl, rfl⟩ e
      | 6 => show mS μ 55 5 x 55 11 = μ 55 11; exact mS_k (by decide)
      | i + 7 => rfl
    | 1 => show tr 48 (mS μ 55 5 x 56) i = tr 48 (μ 56) i; rw [mS_c (by decide)]
    | 2 => show tr 6 (mS μ 55 5 x 57) i = tr 6 (μ 57) i; rw [mS_c (by decide)]
    | 3 => show tr 6 (mS μ 55 5 x 59) i = tr 6 (μ 59) i; rw [mS_c (by decide)]
    | 4 => show tr 8 (mS μ 55 5 x 60) i = tr 8 (μ 60) i; rw [mS_c (by decide)]
    | 5 => show tr 6 (fun i => mS μ 55 5 x 61 (3 * i)) i = tr 6 (fun i => μ 61 (3 * i)) i; rw [mS_c (by decide)]
    | 6 => show tr 6 (fun i => mS μ 55 5 x 61 (3 * i + 1)) i = tr 6 (fun i => μ 61 (3 * i + 1)) i; rw [mS_c (by decide)]
    | 7 => show tr 6 (fun i => mS μ 55 5 x 61 (3 * i + 2)) i = tr 6 (fun i => μ 61 (3 * i + 2)) i; rw [mS_c (by decide)]
    | r + 8 => rfl
/-- the first of the greatest -/
def amx (f : Nat → Int32) (m0 b0 : Int32) : Nat → Int32 × Int32
  | 0 => (m0, b0)
  | k + 1 => if f k ≤ (amx f m0 b0 k).1 then amx f m0 b0 k else (f k, nI k)
theorem amx_same {f : Nat → Int32} {m0 b0 m1 b1 : Int32} (h0 : ¬ f 0 ≤ m0) (h1 : ¬ f 0 ≤ m1) : ∀ (k : Nat), amx f m0 b0 (k + 1) = amx f m1 b1 (k + 1)
  | 0 => by
    show (if f 0 ≤ m0 then _ else _) = (if f 0 ≤ m1 then _ else _)
    rw [if_neg h0, if_neg h1]
  | k + 1 => by
    have ih := amx_same (b0 := b0) (b1 := b1) h0 h1 k
    show (if f (k + 1) ≤ (amx f m0 b0 (k + 1)).1 then amx f m0 b0 (k + 1) else _) = (if f (k + 1) ≤ (amx f m1 b1 (k + 1)).1 then amx f m1 b1 (k + 1) else _)
    rw [ih]
theorem fr_nn {b s e : Nat} (hb : b ≤ 30) (hs : s ≤ 9) (he : e ≤ 6) : ∃ t, t ≤ 400 ∧ fr (nI b) (nI s) e = nI t := by
  refine ⟨e * b + e * (e - 1) / 2 * s, ?_, ?_⟩
  · have h1 : e * b ≤ 6 * 30 := Nat.mul_le_mul he hb
    have h2 : ∀ e, e ≤ 6 → e * (e - 1) / 2 ≤ 15 := by decide
    have h3 : e * (e - 1) / 2 * s ≤ 15 * 9 := Nat.mul_le_mul (h2 e he) hs
    omega
  · unfold fr
    rw [nI_mul, nI_mul, nI_add]
theorem TK_nn {v : Vw} (hw : Wb v) {b s : Nat} (hb : b ≤ 30) (hs : s ≤ 9) (eb : v 0 2 = nI b) (es : v 0 3 = nI s) : ∃ t, t ≤ 3200 ∧ TK v = nI t := by
  have hp : ∀ g, ∃ t, t ≤ 400 ∧ payC v g = nI t := by
    intro g
    unfold payC
    cases cmB v (nI g) with
    | false => exact ⟨0, by omega, rfl⟩
    | true =>
      rw [cond_true]
      unfold pay
      rw [eb, es]
      exact fr_nn hb hs (Nat.le_trans LV_le hw.1.2.1)
  have : ∀ k, k ≤ 8 → ∃ t, t ≤ 400 * k ∧ sumN (payC v) k = nI t := by
    intro k
    induction k with
    | zero => intro _; exact ⟨0, by omega, rfl⟩
    | succ k ih =>
      intro hk
      obtain ⟨t, ht, e⟩ := ih (by omega)
      obtain ⟨u, hu, e2⟩ := hp k
      refine ⟨t + u, by omega, ?_⟩
      show sumN (payC v) k + payC v k = _
      rw [e, e2, nI_add]
  exact this 8 (by omega)
theorem nn_m1 {t : Nat} (h : t ≤ 3200) : ¬ nI t ≤ -1 := by
  intro z
  have := Int32.le_iff_toInt_le.mp z
  rw [nI_toInt (by omega), show (-1 : Int32).toInt = -1 by decide] at this
  omega
theorem nn_m6 {t : Nat} (h : t ≤ 3200) : ¬ nI t ≤ -6 := by
  intro z
  have := Int32.le_iff_toInt_le.mp z
  rw [nI_toInt (by omega), show (-6 : Int32).toInt = -6 by decide] at this
  omega
theorem dm10 : ∀ k, k < 310 → nI k / 10 = nI (k / 10) ∧ nI k - nI k / 10 * 10 = nI (k % 10) := by decide +kernel
def fv (v : Vw) (x y : Int32) : Vw := mS (mS v 0 2 x) 0 3 y
def FT (v : Vw) (k : Nat) : Int32 := TK (fv v (nI (k / 10)) (nI (k % 10)))
theorem fv_fv {v : Vw} {x y x' y' : Int32} : fv (fv v x y) x' y' = fv v x' y' := by
  unfold fv
  rw [mS_comm (c := 0) (k := 3) (c' := 0) (k' := 2) (by decide), mS_mS, mS_mS]
theorem fv_wb {v : Vw} {x y : Int32} (h : Wb v) : Wb (fv v x y) := h
theorem fares_end {f : Int32} {b : Int32} (hb : ∃ k, k < 310 ∧ b = nI k) : ¬ (10 : Int32) = 0 := by decide
theorem c_fares {μ : Mm} {K : MV → Mm → Prop} {v : Vw} {w : Int32} (hw : Wb v) (hv : vS μ 13 = v) (hK : ∀ μ', AgX μ μ' → K (mI (if w = 0 then (amx (FT v) (-1) 0 310).2 / 10 else if w = 1 then (amx (FT v) (-1) 0 310).2 - (amx (FT v) (-1) 0 310).2 / 10 * 10 else (amx (FT v) (-1) 0 310).1)) μ') : s_X4_faresForMost [mO 7 13, mI w] μ K := by
  refine g_X4_faresForMost ?_
  have lp : ∀ (d k : Nat) (z : MV) (μ' : Mm), k + d = 310 → AgX μ μ' → (∀ x y, fv (vS μ' 13) x y = fv v x y) → Tot e_X4_faresForMost K 7 [mO 7 13, mI w, mI (amx (FT v) (-1) 0 k).1, mI (amx (FT v) (-1) 0 k).2, mI (nI k), z] [] μ' := by
    intro d
    induction d with
    | zero =>
      intro k z μ' hk ha hq
      have e : k = 310 := by omega
      subst e
      refine g_X4_faresForMost_7 ?_
      rw [if_pos (show (310 : Int32) ≤ nI 310 from Int32.le_refl _)]
      have hK := hK μ' ha
      split
      · rename_i q; rw [if_pos q] at hK; exact ⟨by decide, hK⟩
      · rename_i q
        rw [if_neg q] at hK
        split
        · rename_i q2; rw [if_pos q2] at hK; exact ⟨by decide, hK⟩
        · rename_i q2; rw [if_neg q2] at hK; exact hK
    | succ d ih =>
      intro k z μ' hk ha hq
      refine g_X4_faresForMost_7 ?_
      rw [if_neg (show ¬ (310 : Int32) ≤ nI k from nI_ge (b := 310) (by omega) (by omega))]
      refine ⟨by decide, by decide, ?_⟩
      obtain ⟨d1, d2⟩ := dm10 k (by omega)
      rw [d2, d1]
      have ev : vS (mS (mS μ' 13 1 (nI (k / 10))) 13 2 (nI (k % 10))) 13 = fv v (nI (k / 10)) (nI (k % 10)) := by
        rw [vS_step, vS_base]
        exact hq _ _
      refine c_allPay (by rw [ev]; exact fv_wb hw) ?_
      rw [ev, vI_mI]
      have ha2 : AgX μ (mS (mS μ' 13 1 (nI (k / 10))) 13 2 (nI (k % 10))) := (ha.st rfl).st rfl
      have hq2 : ∀ x y, fv (vS (mS (mS μ' 13 1 (nI (k / 10))) 13 2 (nI (k % 10))) 13) x y = fv v x y := fun x y => by rw [ev, fv_fv]
      have hs : amx (FT v) (-1) 0 (k + 1) = if FT v k ≤ (amx (FT v) (-1) 0 k).1 then amx (FT v) (-1) 0 k else (FT v k, nI k) := rfl
      have hF : TK (fv v (nI (k / 10)) (nI (k % 10))) = FT v k := rfl
      rw [hF]
      split
      · rename_i q
        rw [if_pos q] at hs
        have := ih (k + 1) (mI (FT v k)) _ (by omega) ha2 hq2
        rw [hs, ← nI_1] at this
        exact this
      · rename_i q
        rw [if_neg q] at hs
        have := ih (k + 1) (mI (FT v k)) _ (by omega) ha2 hq2
        rw [hs, ← nI_1] at this
        exact this
  exact lp 310 0 mU μ rfl (AgX.rf μ) (fun x y => by rw [hv])
/-- but for the reference's scratch and two fares -/
def Ag3 (μ μ' : Mm) : Prop := ∀ c k, sMb c k = false → ¬ (c = 55 ∧ (k = 2 ∨ k = 3)) → μ' c k = μ c k
theorem d_fares {μ : Mm} {K : MV → Mm → Prop} {w : Int32} (hw : Wb (vM μ)) (hK : ∀ μ', AgM μ μ' → K (mI (if w = 0 then (amx (FT (vM μ)) (-6) 0 310).2 / 10 else if w = 1 then (amx (FT (vM μ)) (-6) 0 310).2 - (amx (FT (vM μ)) (-6) 0 310).2 / 10 * 10 else (amx (FT (vM μ)) (-6) 0 310).1)) μ') : Tot e_X10_fares K 32 [mO 9 55, mI w, mI (μ 55 2), mI (μ 55 3), mI (-6), mI 0, mI 0, mU] [] μ := by
  have lp : ∀ (d k : Nat) (z : MV) (μ' : Mm), k + d = 310 → Ag3 μ μ' → (∀ x y, fv (vM μ') x y = fv (vM μ) x y) → Tot e_X10_fares K 32 [mO 9 55, mI w, mI (μ 55 2), mI (μ 55 3), mI (amx (FT (vM μ)) (-6) 0 k).1, mI (amx (FT (vM μ)) (-6) 0 k).2, mI (nI k), z] [] μ' := by
    intro d
    induction d with
    | zero =>
      intro k z μ' hk ha hq
      have e : k = 310 := by omega
      subst e
      refine g_X10_fares_32 ?_
      rw [if_pos (show (310 : Int32) ≤ nI 310 from Int32.le_refl _)]
      have hK := hK (mS (mS μ' 55 2 (μ 55 2)) 55 3 (μ 55 3)) (fun c k e => by
        by_cases e3 : c = 55 ∧ k = 3
        · rw [e3.1, e3.2, mS_eq]
        · rw [mS_ne e3]
          by_cases e2 : c = 55 ∧ k = 2
          · rw [e2.1, e2.2, mS_eq]
          · rw [mS_ne e2]
            exact ha c k e (fun z => z.2.elim (fun y => e2 ⟨z.1, y⟩) (fun y => e3 ⟨z.1, y⟩)))
      split
      · rename_i q; rw [if_pos q] at hK; exact ⟨by decide, hK⟩
      · rename_i q
        rw [if_neg q] at hK
        split
        · rename_i q2; rw [if_pos q2] at hK; exact ⟨by decide, hK⟩
        · rename_i q2; rw [if_neg q2] at hK; exact hK
    | succ d ih =>
      intro k z μ' hk ha hq
      refine g_X10_fares_32 ?_
      rw [if_neg (show ¬ (310 : Int32) ≤ nI k from nI_ge (b := 310) (by omega) (by omega))]
      refine ⟨by decide, by decide, ?_⟩
      obtain ⟨d1, d2⟩ := dm10 k (by omega)
      rw [d2, d1]
      have ev : vM (mS (mS μ' 55 2 (nI (k / 10))) 55 3 (nI (k % 10))) = fv (vM μ) (nI (k / 10)) (nI (k % 10)) := by
        rw [vM_step, vM_base]
        exact hq _ _
      refine d_allTakings (by rw [ev]; exact fv_wb hw) (by rw [ev]; exact ⟨k % 10, by omega, rfl⟩) fun μ2 ha2 => ?_
      rw [ev, vI_mI]
      have ha3 : Ag3 μ μ2 := fun c k e hne => by
        rw [ha2 c k e, mS_ne (fun z => hne ⟨z.1, Or.inr z.2⟩), mS_ne (fun z => hne ⟨z.1, Or.inl z.2⟩)]
        exact ha c k e hne
      have hq2 : ∀ x y, fv (vM μ2) x y = fv (vM μ) x y := fun x y => by rw [ha2.vM, ev, fv_fv]
      have hs : amx (FT (vM μ)) (-6) 0 (k + 1) = if FT (vM μ) k ≤ (amx (FT (vM μ)) (-6) 0 k).1 then amx (FT (vM μ)) (-6) 0 k else (FT (vM μ) k, nI k) := rfl
      have hF : TK (fv (vM μ) (nI (k / 10)) (nI (k % 10))) = FT (vM μ) k := rfl
      rw [hF]
      split
      · rename_i q
        rw [if_pos q] at hs
        have := ih (k + 1) (mI (FT (vM μ) k)) _ (by omega) ha3 hq2
        rw [hs, ← nI_1] at this
        exact this
      · rename_i q
        rw [if_neg q] at hs
        have := ih (k + 1) (mI (FT (vM μ) k)) _ (by omega) ha3 hq2
        rw [hs, ← nI_1] at this
        exact this
  exact lp 310 0 mU μ rfl (fun _ _ _ _ => rfl) (fun _ _ => rfl)
theorem call_fares {μ : Mm} (r : Rl μ) (a : Int32) : s_X9_fares [mO 8 0, mI a] μ (fun v1 μ1 => s_X10_fares [mO 9 55, mI a] μ1 (fun v2 μ2 => Gd v1 v2 μ2)) := by
  refine g_X9_fares (c_within ?_)
  rw [vI_mI, ite_b]
  cases hd : decide (0 ≤ a ∧ a ≤ 2) with
  | false =>
    refine g_X10_fares (d_in ?_)
    rw [vI_mI, ite_b, hd]
    exact ⟨rfl, r⟩
  | true =>
    rw [cond_true]
    refine c_tried fun μ1 ha1 hv1 _ => ?_
    refine c_fares (v := vM μ) r.wb (by rw [hv1, r.v]) fun μ2 ha2 => ?_
    have r2 : Rl μ2 := (ha1.tr ha2).Rl r
    have ev : vM μ2 = vM μ := by
      have ha := ha1.tr ha2
      exact vM_congr (fun k _ => ha 55 k rfl) (ha 55 11 rfl) (ha.cell fun _ => rfl) (ha.cell fun _ => rfl) (ha.cell fun _ => rfl) (ha.cell fun _ => rfl) (ha.cell fun _ => rfl)
    refine g_X10_fares (d_in ?_)
    rw [vI_mI, ite_b, hd, cond_true]
    refine d_fares r2.wb fun μ3 ha3 => ⟨?_, ha3.Rl r2⟩
    obtain ⟨t, ht, et⟩ : ∃ t, t ≤ 3200 ∧ FT (vM μ) 0 = nI t := TK_nn (v := fv (vM μ) (nI 0) (nI 0)) (fv_wb r.wb) (b := 0) (s := 0) (by omega) (by omega) rfl rfl
    rw [ev, vI_mI, amx_same (f := FT (vM μ)) (m0 := -1) (m1 := -6) (b0 := 0) (b1 := 0) (by rw [et]; exact nn_m1 ht) (by rw [et]; exact nn_m6 ht) 309]
