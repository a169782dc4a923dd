/-! ===== ODDS ===== -/
theorem lN_toI {n : Nat} (h : n < 2 ^ 63) : (lN n).toInt = (n : Int) := by
  exact lg_ofNat_toInt h
theorem lN_div {a b : Nat} (ha : a < 2 ^ 63) (hb : b < 2 ^ 63) : lN a / lN b = lN (a / b) := by
  have hq : a / b ≤ a := Nat.div_le_self a b
  apply Int64.toInt_inj.mp
  rw [Int64.toInt_div, lN_toI ha, lN_toI hb, lN_toI (by omega), ← Int.ofNat_tdiv]
  generalize a / b = q at hq ⊢
  rw [Int.bmod_eq_of_le (by omega) (by omega)]
theorem lN_rem {a b : Nat} (ha : a < 2 ^ 63) (hb : b < 2 ^ 63) : lN a - lN a / lN b * lN b = lN (a % b) := by
  have h : a / b * b ≤ a := Nat.div_mul_le_self a b
  rw [lN_div ha hb, lN_mul, lN_sub h]
  congr 1
  rw [Nat.mod_eq_sub, Nat.mul_comm]
theorem lN_0 {b : Nat} (hb : b < 2 ^ 63) : lN b = 0 ↔ b = 0 := by
  rw [show (0 : Int64) = lN 0 from rfl, ← Int64.toInt_inj, lN_toI hb, lN_toI (by omega)]
  omega
theorem cmp_0 {b : Nat} (hb : b < 2 ^ 63) : lg_cmp (lN b) 0 = 0 ↔ b = 0 := by
  unfold lg_cmp
  have hp : (lN b > 0) ↔ 0 < b := by
    show 0 < lN b ↔ _
    rw [Int64.lt_iff_toInt_lt, lN_toI hb, show (0 : Int64).toInt = 0 by decide]
    omega
  by_cases h : b = 0
  · rw [if_neg (fun z => by have := hp.mp z; omega), if_pos ((lN_0 hb).mpr h)]
    simp [h]
  · rw [if_pos (hp.mpr (by omega))]
    simp [h]
theorem cmp_le {b : Nat} (hb : b < 2 ^ 63) (h : 0 < b) : ¬ lg_cmp (lN b) 0 ≤ 0 := by
  unfold lg_cmp
  have hp : lN b > 0 := by
    show 0 < lN b
    rw [Int64.lt_iff_toInt_lt, lN_toI hb, show (0 : Int64).toInt = 0 by decide]
    omega
  rw [if_pos hp]
  decide
def eu : Nat → Nat → Nat → Nat
  | 0, a, _ => a
  | f + 1, a, b => if b = 0 then a else eu f b (a % b)
theorem gcd_step (a b : Nat) : Nat.gcd b (a % b) = Nat.gcd a b := by
  rw [Nat.gcd_comm b (a % b), ← Nat.gcd_rec, Nat.gcd_comm]
theorem eu_gcd : ∀ (k f a b : Nat), b < 2 ^ k → 2 * k + 1 ≤ f → eu f a b = Nat.gcd a b := by
  intro k
  induction k with
  | zero =>
    intro f a b hb hf
    obtain ⟨f, rfl⟩ : ∃ f', f = f' + 1 := ⟨f - 1, by omega⟩
    have : b = 0 := by omega
    subst this
    unfold eu
    rw [if_pos rfl, Nat.gcd_zero_right]
  | succ k ih =>
    intro f a b hb hf
    obtain ⟨f, rfl⟩ : ∃ f', f = f' + 1 + 1 := ⟨f - 2, by omega⟩
    unfold eu
    by_cases h0 : b = 0
    · rw [if_pos h0, h0, Nat.gcd_zero_right]
    · rw [if_neg h0, ← gcd_step a b]
      unfold eu
      by_cases h1 : a % b = 0
      · rw [if_pos h1, h1, Nat.gcd_zero_right]
      · rw [if_neg h1]
        have hlt : a % b < b := Nat.mod_lt a (by omega)
        have h2 : b % (a % b) < a % b := Nat.mod_lt b (by omega)
        have h3 : a % b + b % (a % b) ≤ b := by
          have := Nat.div_add_mod b (a % b)
          have hq : 1 ≤ b / (a % b) := (Nat.one_le_div_iff (by omega)).mpr (by omega)
          have : (a % b) * 1 ≤ (a % b) * (b / (a % b)) := Nat.mul_le_mul_left _ hq
          omega
        rw [ih f _ _ (by rw [Nat.pow_succ] at hb; omega) (by omega), gcd_step]
theorem c_common {μ : Mm} {K : MV → Mm → Prop} {a b : Nat} (ha : a < 2 ^ 63) (hb : b < 2 ^ 63) (hK : K (mJ (lN (eu 1000 a b))) μ) : s_X0_common [mJ (lN a), mJ (lN b)] μ K := by
  refine g_X0_common ?_
  have lp : ∀ (d i x y : Nat) (z : MV), i + d = 1000 → x < 2 ^ 63 → y < 2 ^ 63 → K (mJ (lN (eu d x y))) μ → Tot e_X0_common K 9 [mJ (lN a), mU, mJ (lN b), mU, mJ (lN x), mU, mJ (lN y), mU, mI (nI i), z, mU] [] μ := by
    intro d
    induction d with
    | zero =>
      intro i x y z hi hx hy hk
      have e : i = 1000 := by omega
      subst e
      refine g_X0_common_9 ?_
      rw [if_pos (show (1000 : Int32) ≤ nI 1000 from Int32.le_refl _)]
      exact hk
    | succ d ih =>
      intro i x y z hi hx hy hk
      refine g_X0_common_9 ?_
      rw [if_neg (show ¬ (1000 : Int32) ≤ nI i from nI_ge (b := 1000) (by omega) (by omega))]
      unfold eu at hk
      by_cases h0 : y = 0
      · rw [if_pos ((cmp_0 hy).mpr h0)]
        rw [if_pos h0] at hk
        exact hk
      · rw [if_neg (fun q => h0 ((cmp_0 hy).mp q))]
        rw [if_neg h0] at hk
        refine ⟨fun q => h0 ((lN_0 hy).mp q), ?_⟩
        rw [lN_rem hx hy]
        have := ih (i + 1) y (x % y) (mJ (lN (x % y))) (by omega) hy (Nat.lt_of_le_of_lt (Nat.mod_le x y) hx) hk
        rw [← nI_1] at this
        exact this
  exact lp 1000 0 a b mU (by omega) ha hb hK
theorem d_gcd {μ : Mm} {K : MV → Mm → Prop} {x w c : Int32} {n : Int32} {u lo : Nat} (hlo : 0 < lo) (hu : u < 2 ^ 63) (hl : lo < 2 ^ 63) (hK : K (mJ (if w = 0 then lN u / lN (Nat.gcd u lo) else lN lo / lN (Nat.gcd u lo))) μ) : ∀ (b a : Nat) (z : MV), b < 2 ^ 63 → a < 2 ^ 63 → Nat.gcd a b = Nat.gcd u lo → Tot e_X10_odds K 139 [mO 9 55, mI x, mI c, mI w, mI n, mJ (lN u), mU, mJ (lN lo), mU, mJ (lN a), mU, mJ (lN b), mU, z, mU] [] μ := by
  intro b
  induction b using Nat.strongRecOn with
  | _ b ih =>
    intro a z hb ha hg
    refine g_X10_odds_139 ?_
    by_cases h0 : b = 0
    · rw [if_pos ((cmp_0 hb).mpr h0)]
      subst h0
      rw [Nat.gcd_zero_right] at hg
      subst hg
      have hpos : 0 < Nat.gcd u lo := Nat.gcd_pos_of_pos_right u hlo
      have hne : ¬ lN (Nat.gcd u lo) = 0 := fun q => by have := (lN_0 ha).mp q; omega
      split
      · rename_i q; rw [if_pos q] at hK; exact ⟨hne, hK⟩
      · rename_i q; rw [if_neg q] at hK; exact ⟨hne, hK⟩
    · rw [if_neg (fun q => h0 ((cmp_0 hb).mp q))]
      refine ⟨fun q => h0 ((lN_0 hb).mp q), ?_⟩
      rw [lN_rem ha hb]
      exact ih (a % b) (Nat.mod_lt a (by omega)) b _ (Nat.lt_of_le_of_lt (Nat.mod_le a b) ha) hb (by rw [gcd_step, hg])
/-- how many bits below a place -/
def cbN (x : Int32) : Nat → Nat
  | 0 => 0
  | k + 1 => cbN x k + (bif bb x k then 1 else 0)
theorem bit_I (x : Int32) (k : Nat) : (x >>> (nI k &&& 31)) &&& 1 = nI (bif bb x k then 1 else 0) := by
  unfold bb
  rcases and1 (x >>> (nI k &&& 31)) with h | h <;> (rw [h]; decide)
theorem bits_cb (x : Int32) : bitsI x = nI (cbN x 8) := by
  have : ∀ k, sumN (fun k => (x >>> (nI k &&& 31)) &&& 1) k = nI (cbN x k) := by
    intro k
    induction k with
    | zero => rfl
    | succ k ih =>
      show sumN _ k + _ = _
      rw [ih]
      show nI (cbN x k) + ((x >>> (nI k &&& 31)) &&& 1) = _
      rw [bit_I, nI_add]
      rfl
  exact this 8
theorem cb_le (x : Int32) : ∀ k, cbN x k ≤ k
  | 0 => Nat.le_refl 0
  | k + 1 => by
    have := cb_le x k
    unfold cbN
    cases bb x k <;> simp <;> omega
theorem d_power {μ : Mm} {K : MV → Mm → Prop} {v k : Nat} (hk : k < 2 ^ 31) (hK : K (mJ (lN (v ^ k))) μ) : s_X10_power [mJ (lN v), mI (nI k)] μ K := by
  refine g_X10_power ?_
  have lp : ∀ (d i : Nat), i + d = k → Tot e_X10_power K 5 [mJ (lN v), mU, mI (nI k), mJ (lN (v ^ i)), mU, mI (nI i)] [] μ := by
    intro d
    induction d with
    | zero =>
      intro i hi
      have e : i = k := by omega
      subst e
      refine g_X10_power_5 ?_
      rw [if_pos (nI_le (Nat.le_refl _) hk)]
      exact hK
    | succ d ih =>
      intro i hi
      refine g_X10_power_5 ?_
      rw [if_neg (nI_ge (by omega) hk), lN_mul, ← Nat.pow_succ]
      have := ih (i + 1) (by omega)
      rw [← nI_1] at this
      exact this
  exact lp k 0 (by omega)
def wy (s m : Int32) (c : Nat) : Nat → Nat
  | 0 => 1
  | k + 1 => wy s m c k * (bif bb m k then (bif bb s k then c else 10 - c) else 1)
theorem wy_pow {s m : Int32} {c : Nat} (hsub : ∀ k, k < 8 → bb s k = true → bb m k = true) : ∀ k, k ≤ 8 → cbN s k ≤ cbN m k ∧ wy s m c k = c ^ cbN s k * (10 - c) ^ (cbN m k - cbN s k) := by
  intro k
  induction k with
  | zero => intro _; exact ⟨Nat.le_refl _, rfl⟩
  | succ k ih =>
    intro hk
    obtain ⟨h1, h2⟩ := ih (by omega)
    have hs := hsub k (by omega)
    unfold wy cbN
    rw [h2]
    cases hb : bb m k with
    | false =>
      cases hc : bb s k with
      | false => simp; exact h1
      | true => rw [hs hc] at hb; cases hb
    | true =>
      cases hc : bb s k with
      | false =>
        simp only [cond_true, cond_false, Nat.add_zero]
        refine ⟨by omega, ?_⟩
        rw [show cbN m k + 1 - cbN s k = (cbN m k - cbN s k) + 1 by omega, Nat.pow_succ, Nat.mul_assoc]
      | true =>
        simp only [cond_true]
        refine ⟨by omega, ?_⟩
        rw [show cbN m k + 1 - (cbN s k + 1) = cbN m k - cbN s k by omega, Nat.pow_succ]
        ac_rfl
theorem wy_le {s m : Int32} {c : Nat} (hc : c ≤ 10) : ∀ k, wy s m c k ≤ 10 ^ k
  | 0 => Nat.le_refl _
  | k + 1 => by
    unfold wy
    rw [Nat.pow_succ]
    refine Nat.mul_le_mul (wy_le hc k) ?_
    cases bb m k <;> cases bb s k <;> simp <;> omega
theorem c_waysOf {μ : Mm} {K : MV → Mm → Prop} {s : Int32} {st c : Nat} (hc : c ≤ 10) (hK : K (mJ (lN (wy s (vS μ st 0 1) c 8))) μ) : s_X0_waysOf [mO 7 st, mI s, mI (nI c)] μ K := by
  refine g_X0_waysOf ?_
  have e10 : Int32.toInt64 (10 - nI c) = lN (10 - c) := by
    rw [show (10 : Int32) = nI 10 from rfl, nI_sub hc, nI_l (by omega)]
  have lp : ∀ (d i : Nat), i + d = 8 → Tot e_X0_waysOf K 5 [mO 7 st, mI s, mI (nI c), mJ (lN (wy s (vS μ st 0 1) c i)), mU, mI (nI i)] [] μ := by
    intro d
    induction d with
    | zero =>
      intro i hi
      have e : i = 8 := by omega
      subst e
      refine g_X0_waysOf_5 ?_
      rw [if_pos (by decide)]
      exact hK
    | succ d ih =>
      intro i hi
      refine g_X0_waysOf_5 ?_
      rw [if_neg (show ¬ (8 : Int32) ≤ nI i from nI_ge (b := 8) (by omega) (by omega))]
      refine c_comes ?_
      have hcm : cmB (vS μ st) (nI i) = bb (vS μ st 0 1) i := cmB_8 (by omega)
      have hs : wy s (vS μ st 0 1) c (i + 1) = wy s (vS μ st 0 1) c i * (bif bb (vS μ st 0 1) i then (bif bb s i then c else 10 - c) else 1) := rfl
      have := ih (i + 1) (by omega)
      rw [← nI_1, hs] at this
      rw [vI_mI, ite_b, hcm]
      cases hb : bb (vS μ st 0 1) i with
      | false =>
        rw [hb, cond_false, Nat.mul_one] at this
        exact this
      | true =>
        rw [hb, cond_true] at this
        rw [cond_true]
        split
        · rename_i q
          have hq : bb s i = false := by unfold bb; rw [q]; rfl
          rw [hq, cond_false] at this
          rw [e10, lN_mul]
          exact this
        · rename_i q
          have hq : bb s i = true := by unfold bb; rw [and1_ne0 q]; rfl
          rw [hq, cond_true] at this
          rw [show Int32.toInt64 (nI c) = lN c from nI_l (by omega), lN_mul]
          exact this
  exact lp 8 0 rfl
def subB (m s : Nat) : Bool := decide (nI s &&& (nI m ^^^ (-1 : Int32)) = 0)
theorem sub_le : ∀ m, m < 256 → ∀ s, s < 256 → subB m s = true → s ≤ m := by decide +kernel
theorem not_bit : ∀ m, m < 256 → ∀ k, k < 8 → bb (nI m ^^^ (-1 : Int32)) k = !bb (nI m) k := by decide +kernel
theorem sub_bits {m s k : Nat} (hm : m < 256) (hk : k < 8) (h : subB m s = true) (hs : bb (nI s) k = true) : bb (nI m) k = true := by
  have h := of_decide_eq_true h
  have e := bb_and (nI s) (nI m ^^^ (-1 : Int32)) k
  rw [h, bb0, hs, not_bit m hm k hk] at e
  cases hb : bb (nI m) k with
  | true => rfl
  | false => rw [hb] at e; cases e
/-- the ways of the first sets by which x or more comes in -/
def US (p : Nat → Int32) (m c : Nat) (x : Int32) : Nat → Nat
  | 0 => 0
  | s + 1 => US p m c x s + (bif subB m s then (if PB p (nI s) 8 < x then 0 else wy (nI s) (nI m) c 8) else 0)
theorem US_le {p : Nat → Int32} {m c B : Nat} {x : Int32} (hB : ∀ s, wy (nI s) (nI m) c 8 ≤ B) (s : Nat) : US p m c x s ≤ s * B := by
  induction s with
  | zero => exact Nat.zero_le _
  | succ s ih =>
    have h2 := hB s
    unfold US
    rw [Nat.succ_mul]
    cases subB m s with
    | false => exact Nat.add_le_add ih (Nat.zero_le _)
    | true =>
      rw [cond_true]
      split
      · exact Nat.add_le_add ih (Nat.zero_le _)
      · exact Nat.add_le_add ih h2
theorem US_top {p : Nat → Int32} {m c : Nat} {x : Int32} (hm : m < 256) (d : Nat) : m + 1 + d ≤ 256 → US p m c x (m + 1 + d) = US p m c x (m + 1) := by
  induction d with
  | zero => intro _; rfl
  | succ d ih =>
    intro h
    have ih := ih (by omega)
    rw [← ih]
    generalize hs : m + 1 + d = s
    have e : m + 1 + (d + 1) = s + 1 := by omega
    rw [e]
    unfold US
    cases hb : subB m s with
    | false => rw [cond_false, Nat.add_zero]; cases s <;> rfl
    | true =>
      have := sub_le m hm s (by omega) hb
      omega
