/-! ===== numbers, views of the two states, what is asked of them ===== -/
theorem vi_nI {i n : Nat} (h : i < n) (hn : n < 2 ^ 31) : vi (nI i) n := by
  unfold vi
  rw [nI_toInt (Nat.lt_trans h hn)]
  omega
theorem nI_mul (a b : Nat) : nI a * nI b = nI (a * b) := (Int32.ofNat_mul a b).symm
theorem nI_sub {a b : Nat} (h : b ≤ a) : nI a - nI b = nI (a - b) := by
  have e : nI a = nI (a - b) + nI b := by rw [nI_add]; congr 1; omega
  rw [e]
  exact Int32.add_sub_cancel _ _
theorem nI_nat {x : Int32} (h : 0 ≤ x) : x = nI x.toNatClampNeg := by
  have h0 : 0 ≤ x.toInt := by
    have := Int32.le_iff_toInt_le.mp h
    simpa using this
  have h1 : x.toInt < 2 ^ 31 := Int32.toInt_lt x
  have hc : x.toNatClampNeg = x.toInt.toNat := rfl
  apply Int32.toInt_inj.mp
  rw [nI_toInt (by rw [hc]; omega), hc]
  omega
theorem nI_rng {x : Int32} {n : Nat} (hn : n < 2 ^ 31) (h0 : 0 ≤ x) (h1 : x ≤ nI n) : x.toNatClampNeg ≤ n := by
  have hc : x.toNatClampNeg = x.toInt.toNat := rfl
  have h2 := Int32.le_iff_toInt_le.mp h1
  rw [nI_toInt hn] at h2
  rw [hc]
  omega
/-- an int between 0 and n -/
theorem nI_btw {x : Int32} {n : Nat} (hn : n < 2 ^ 31) (h0 : 0 ≤ x) (h1 : x ≤ nI n) : ∃ k, k ≤ n ∧ x = nI k := ⟨x.toNatClampNeg, nI_rng hn h0 h1, nI_nat h0⟩
theorem i_le_of_not_lt {a b : Int32} (h : ¬ a < b) : b ≤ a := Int32.not_lt.mp h
theorem i_lt_of_not_le {a b : Int32} (h : ¬ a ≤ b) : b < a := Int32.not_le.mp h
theorem i_not_lt_of_le {a b : Int32} (h : a ≤ b) : ¬ b < a := Int32.not_lt.mpr h
theorem i_not_le_of_lt {a b : Int32} (h : a < b) : ¬ b ≤ a := Int32.not_le.mpr h
def bI (b : Bool) : Int32 := bif b then 1 else 0
theorem bI_0 {b : Bool} : (bI b = 0) = (b = false) := by cases b <;> simp [bI]
theorem zb1 : zb 1 := Or.inr rfl
theorem zb0 : zb 0 := Or.inl rfl
theorem zb_bI {b : Bool} : zb (bI b) := by cases b; exact zb0; exact zb1
theorem vI_mI (x : Int32) : vI (mI x) = x := rfl
theorem vJ_mJ (x : Int64) : vJ (mJ x) = x := rfl
theorem vC_mO (t c : Nat) : vC (mO t c) = c := rfl
theorem mS_mS {μ : Mm} {c k : Nat} {x y : Int32} : mS (mS μ c k x) c k y = mS μ c k y := by
  funext c' k'
  unfold mS
  split <;> rfl
theorem mS_comm {μ : Mm} {c k c' k' : Nat} {x y : Int32} (h : ¬ (c = c' ∧ k = k')) : mS (mS μ c k x) c' k' y = mS (mS μ c' k' y) c k x := by
  funext a b
  unfold mS
  by_cases h1 : a = c' ∧ b = k'
  · by_cases h2 : a = c ∧ b = k
    · exact absurd ⟨h2.1.symm.trans h1.1, h2.2.symm.trans h1.2⟩ h
    · rw [if_pos h1, if_neg h2, if_pos h1]
  · rw [if_neg h1]
    by_cases h2 : a = c ∧ b = k
    · rw [if_pos h2, if_pos h2]
    · rw [if_neg h2, if_neg h2, if_neg h1]
theorem mS_id {μ : Mm} {c k : Nat} {x : Int32} (h : μ c k = x) : mS μ c k x = μ := by
  funext a b
  unfold mS
  split
  · rename_i e; rw [e.1, e.2, h]
  · rfl
theorem mS_c {μ : Mm} {c k : Nat} {x : Int32} {c' : Nat} (h : c' ≠ c) : mS μ c k x c' = μ c' := funext fun _ => mS_ne (fun e => h e.1)
abbrev Vw : Type := Nat → Nat → Int32
def tr (n : Nat) (f : Nat → Int32) : Nat → Int32 := fun i => if i < n then f i else 0
theorem tr_at {n : Nat} {f : Nat → Int32} {i : Nat} (h : i < n) : tr n f i = f i := if_pos h
theorem tr_eq {n : Nat} {f g : Nat → Int32} (h : ∀ i, i < n → f i = g i) : tr n f = tr n g := by
  funext i
  unfold tr
  split
  · exact h i (by assumption)
  · rfl
/-- a Stage at cell c, as a view: 0 numbers (acts, come, base, step, law, base there, sights), 1 worths, 2 order, 3 worths there, 4 friends, 5 to 7 sights -/
def vS (μ : Mm) (c : Nat) : Vw := fun r => match r with
  | 0 => fun i => match i with
    | 0 => μ c 0
    | 1 => μ c 5
    | 2 => μ c 1
    | 3 => μ c 2
    | 4 => μ c 3
    | 5 => μ c 4
    | 6 => μ (c + 6) 0
    | _ => 0
  | 1 => tr 48 (μ (c + 2))
  | 2 => tr 6 (μ (c + 1))
  | 3 => tr 6 (μ (c + 3))
  | 4 => tr 8 (μ (c + 5))
  | 5 => tr 6 (μ (c + 7))
  | 6 => tr 6 (μ (c + 8))
  | 7 => tr 6 (μ (c + 9))
  | _ => fun _ => 0
/-- the reference's state, as the same view -/
def vM (μ : Mm) : Vw := fun r => match r with
  | 0 => fun i => match i with
    | 0 => μ 55 0
    | 1 => μ 55 1
    | 2 => μ 55 2
    | 3 => μ 55 3
    | 4 => μ 55 4
    | 5 => μ 55 5
    | 6 => μ 55 11
    | _ => 0
  | 1 => tr 48 (μ 56)
  | 2 => tr 6 (μ 57)
  | 3 => tr 6 (μ 59)
  | 4 => tr 8 (μ 60)
  | 5 => tr 6 (fun i => μ 61 (3 * i))
  | 6 => tr 6 (fun i => μ 61 (3 * i + 1))
  | 7 => tr 6 (fun i => μ 61 (3 * i + 2))
  | _ => fun _ => 0
def nA (v : Vw) : Nat := (v 0 0).toNatClampNeg
def oA (v : Vw) (j : Nat) : Nat := (v 2 j).toNatClampNeg
def sumN (f : Nat → Int32) : Nat → Int32
  | 0 => 0
  | k + 1 => sumN f k + f k
theorem sumN_congr {f g : Nat → Int32} : ∀ (n : Nat), (∀ i, i < n → f i = g i) → sumN f n = sumN g n
  | 0, _ => rfl
  | n + 1, h => by
    show sumN f n + f n = sumN g n + g n
    rw [sumN_congr n (fun i hi => h i (by omega)), h n (by omega)]
/-- worth to a guest of the act played j-th -/
def wp (v : Vw) (g j : Nat) : Int32 := v 1 (6 * g + oA v j)
/-- FARES of e acts -/
def fr (b s : Int32) (e : Nat) : Int32 := nI e * b + nI (e * (e - 1) / 2) * s
def sw (v : Vw) (g : Nat) (k : Nat) : Int32 := sumN (wp v g) k
def lv (v : Vw) (g : Nat) : Nat → Nat × Int32
  | 0 => (0, 0)
  | k + 1 => if (lv v g k).2 < sw v g (k + 1) - fr (v 0 2) (v 0 3) (k + 1) ∧ (v 0 4 = 0 ∨ k + 1 = nA v) then (k + 1, sw v g (k + 1) - fr (v 0 2) (v 0 3) (k + 1)) else lv v g k
def LV (v : Vw) (g : Nat) : Nat := (lv v g (nA v)).1
def OWN (v : Vw) (g : Nat) : Int32 := (lv v g (nA v)).2
def pay (v : Vw) (g : Nat) : Int32 := fr (v 0 2) (v 0 3) (LV v g)
def cmB (v : Vw) (a : Int32) : Bool := decide (0 ≤ a ∧ a ≤ 7) && decide ((v 0 1 >>> (a &&& 31)) &&& 1 = 1)
def payC (v : Vw) (g : Nat) : Int32 := bif cmB v (nI g) then pay v g else 0
def TK (v : Vw) : Int32 := sumN (payC v) 8
theorem lv_le {v : Vw} {g : Nat} : ∀ (k : Nat), (lv v g k).1 ≤ k
  | 0 => Nat.le_refl 0
  | k + 1 => by
    unfold lv
    split
    · exact Nat.le_refl _
    · exact Nat.le_succ_of_le (lv_le k)
theorem LV_le {v : Vw} {g : Nat} : LV v g ≤ nA v := lv_le _
theorem fr_0 (b s : Int32) : fr b s 0 = 0 := by
  unfold fr
  show 0 * b + 0 * s = 0
  rw [Int32.zero_mul, Int32.zero_mul]
  rfl
theorem lv_own {v : Vw} {g : Nat} : ∀ (k : Nat), (lv v g k).2 = sw v g (lv v g k).1 - fr (v 0 2) (v 0 3) (lv v g k).1
  | 0 => by
    show 0 = sw v g 0 - fr _ _ 0
    rw [fr_0]
    show (0 : Int32) = 0 - 0
    decide
  | k + 1 => by
    unfold lv
    split
    · rfl
    · exact lv_own k
/-- the acts, and an order whose places are acts -/
def Wb (v : Vw) : Prop := (1 ≤ nA v ∧ nA v ≤ 6 ∧ v 0 0 = nI (nA v)) ∧ ∀ j, j < 6 → oA v j < 6 ∧ v 2 j = nI (oA v j)
theorem fr_comp {b s : Int32} {e : Nat} (he : e ≤ 6) : nI e * b + nI e * (nI e - 1) / 2 * s = fr b s e := by
  have h : ∀ e, e ≤ 6 → nI e * (nI e - 1) / 2 = nI (e * (e - 1) / 2) := by decide
  rw [h e he]
  rfl
theorem fr_ref {b s : Int32} {e : Nat} (he : e ≤ 6) (hs : ∃ k, k ≤ 9 ∧ s = nI k) : nI e * b + s * nI e * (nI e - 1) / 2 = fr b s e := by
  obtain ⟨k, hk, rfl⟩ := hs
  have h : ∀ e, e ≤ 6 → ∀ k, k ≤ 9 → nI k * nI e * (nI e - 1) / 2 = nI (e * (e - 1) / 2) * nI k := by decide
  rw [h e he k hk]
  rfl
theorem fr_succ (b s : Int32) {k : Nat} (hk : k ≤ 6) : fr b s (k + 1) = fr b s k + (b + nI k * s) := by
  have h : ∀ k, k ≤ 6 → nI ((k + 1) * (k + 1 - 1) / 2) = nI (k * (k - 1) / 2) + nI k := by decide
  unfold fr
  rw [h k hk, nI_succ, Int32.add_mul, Int32.add_mul, Int32.one_mul]
  ac_rfl
theorem and1 (x : Int32) : x &&& 1 = 0 ∨ x &&& 1 = 1 := by
  have h : ∀ b : BitVec 32, b &&& 1#32 = 0#32 ∨ b &&& 1#32 = 1#32 := by
    intro b
    have h1 : (b &&& 1#32).toNat = b.toNat % 2 := by
      rw [BitVec.toNat_and]
      exact Nat.and_one_is_mod b.toNat
    rcases Nat.mod_two_eq_zero_or_one b.toNat with e | e
    · left; apply BitVec.eq_of_toNat_eq; rw [h1, e]; rfl
    · right; apply BitVec.eq_of_toNat_eq; rw [h1, e]; rfl
  rcases h x.toBitVec with e | e
  · left; exact Int32.toBitVec_inj.mp (by rw [Int32.toBitVec_and]; exact e)
  · right; exact Int32.toBitVec_inj.mp (by rw [Int32.toBitVec_and]; exact e)
theorem and1_ne0 {x : Int32} (h : ¬ x &&& 1 = 0) : x &&& 1 = 1 := (and1 x).resolve_left h
theorem i10 : ¬ (1 : Int32) = 0 := by decide
theorem ite_b {b : Bool} {A B : Prop} : (if bI b = 0 then A else B) = (bif b then B else A) := by
  cases b
  · show (if (0 : Int32) = 0 then A else B) = A
    rw [if_pos rfl]
  · show (if (1 : Int32) = 0 then A else B) = B
    rw [if_neg i10]
theorem sw0 {v : Vw} {g : Nat} {b s : Int32} : sw v g 0 - fr b s 0 = 0 := by
  rw [fr_0]
  show (0 : Int32) - 0 = 0
  decide
