/-! ===== sets of guests as numbers ===== -/
theorem nI_and (a b : Nat) : nI (a &&& b) = nI a &&& nI b := by
  apply Int32.toBitVec_inj.mp
  rw [Int32.toBitVec_and]
  show BitVec.ofNat 32 (a &&& b) = BitVec.ofNat 32 a &&& BitVec.ofNat 32 b
  exact BitVec.ofNat_and
theorem nI_or (a b : Nat) : nI (a ||| b) = nI a ||| nI b := by
  apply Int32.toBitVec_inj.mp
  rw [Int32.toBitVec_or]
  show BitVec.ofNat 32 (a ||| b) = BitVec.ofNat 32 a ||| BitVec.ofNat 32 b
  exact BitVec.ofNat_or
theorem nI_not (a : Nat) : nI a ^^^ (-1 : Int32) = nI (a ^^^ 4294967295) := by
  rw [show (-1 : Int32) = nI 4294967295 by decide]
  apply Int32.toBitVec_inj.mp
  rw [Int32.toBitVec_xor]
  show BitVec.ofNat 32 a ^^^ BitVec.ofNat 32 4294967295 = BitVec.ofNat 32 (a ^^^ 4294967295)
  exact BitVec.ofNat_xor.symm
theorem bbN : ∀ a, a < 256 → ∀ k, k < 8 → bb (nI a) k = a.testBit k := by decide +kernel
theorem shl8 : ∀ k, k < 8 → (1 : Int32) <<< (nI k &&& 31) = nI (2 ^ k) := by decide +kernel
theorem p28 {k : Nat} (h : k < 8) : 2 ^ k < 256 := (Nat.pow_lt_pow_iff_right (by decide) : 2 ^ k < 2 ^ 8 ↔ k < 8).mpr h
theorem or_I {a g : Nat} (hg : g < 8) : nI a ||| ((1 : Int32) <<< (nI g &&& 31)) = nI (a ||| 2 ^ g) := by rw [shl8 g hg, nI_or]
theorem not_tb {a h : Nat} (hh : h < 32) : (a ^^^ 4294967295).testBit h = !a.testBit h := by
  rw [Nat.testBit_xor, show 4294967295 = 2 ^ 32 - 1 from rfl, Nat.testBit_two_pow_sub_one, decide_eq_true hh]
  cases a.testBit h <;> rfl
theorem tb_8 {a h : Nat} (ha : a < 256) (hh : a.testBit h = true) : h < 8 := by
  rcases Nat.lt_or_ge h 8 with q | q
  · exact q
  · have : a < 2 ^ h := Nat.lt_of_lt_of_le ha (Nat.pow_le_pow_right (by decide) q : 2 ^ 8 ≤ 2 ^ h)
    rw [Nat.testBit_lt_two_pow this] at hh
    cases hh
theorem and_not {x y : Nat} (hx : x < 256) : x &&& (y ^^^ 4294967295) = 0 ↔ ∀ h, h < 8 → x.testBit h = true → y.testBit h = true := by
  constructor
  · intro e h hh hb
    have e2 : (x &&& (y ^^^ 4294967295)).testBit h = false := by rw [e, Nat.zero_testBit]
    rw [Nat.testBit_and, hb, not_tb (by omega), Bool.true_and] at e2
    cases hy : y.testBit h with
    | true => rfl
    | false => rw [hy] at e2; cases e2
  · intro H
    refine Nat.eq_of_testBit_eq fun h => ?_
    rw [Nat.testBit_and, Nat.zero_testBit]
    cases hb : x.testBit h with
    | false => rfl
    | true =>
      have h8 := tb_8 hx hb
      rw [not_tb (by omega), H h h8 hb]
      rfl
theorem andn {x y : Nat} (hx : x < 256) : nI x &&& (nI y ^^^ (-1 : Int32)) = 0 ↔ ∀ h, h < 8 → x.testBit h = true → y.testBit h = true := by
  rw [nI_not, ← nI_and, ← and_not hx, show (0 : Int32) = nI 0 from rfl, nI_eq (Nat.lt_of_le_of_lt Nat.and_le_left (by omega)) (by decide)]
/-- how many -/
def pcn (x : Nat) : Nat := (List.range 8).countP (fun k => x.testBit k)
theorem cb_pc : ∀ x, x < 256 → cbN (nI x) 8 = pcn x := by decide +kernel
theorem or_up : ∀ a, a < 256 → ∀ g, g < 8 → a ||| 2 ^ g < 256 ∧ (a.testBit g = false → a < a ||| 2 ^ g) := by decide +kernel
/-- the set of those of whom q tells true -/
def mkN (q : Nat → Bool) : Nat → Nat
  | 0 => 0
  | k + 1 => mkN q k ||| (bif q k then 2 ^ k else 0)
theorem mkN_lt {q : Nat → Bool} : ∀ k, k ≤ 8 → mkN q k < 256
  | 0, _ => show 0 < 256 by decide
  | k + 1, h => by
    have ih := mkN_lt (q := q) k (by omega)
    have h2 : (bif q k then 2 ^ k else 0) < 2 ^ 8 := by
      cases q k
      · show 0 < 2 ^ 8
        decide
      · exact p28 (by omega)
    exact Nat.or_lt_two_pow (n := 8) ih h2
theorem mkN_tb {q : Nat → Bool} {h : Nat} : ∀ k, (mkN q k).testBit h = (decide (h < k) && q h)
  | 0 => by
    show (0 : Nat).testBit h = _
    rw [Nat.zero_testBit, decide_eq_false (Nat.not_lt_zero h)]
    rfl
  | k + 1 => by
    show (mkN q k ||| (bif q k then 2 ^ k else 0)).testBit h = _
    rw [Nat.testBit_or, mkN_tb k]
    by_cases e : h = k
    · subst e
      rw [decide_eq_false (Nat.lt_irrefl h), decide_eq_true (Nat.lt_succ_self h)]
      cases q h
      · show (false || (0 : Nat).testBit h) = false
        rw [Nat.zero_testBit]; rfl
      · show (false || (2 ^ h).testBit h) = true
        rw [Nat.testBit_two_pow_self]; rfl
    · have e2 : (bif q k then 2 ^ k else 0).testBit h = false := by
        cases q k
        · exact Nat.zero_testBit h
        · exact Nat.testBit_two_pow_of_ne (fun z => e z.symm)
      have e3 : decide (h < k + 1) = decide (h < k) := by
        by_cases z : h < k
        · rw [decide_eq_true z, decide_eq_true (by omega)]
        · rw [decide_eq_false z, decide_eq_false (by omega)]
      rw [e2, e3, Bool.or_false]
/-- the set of a list -/
def mkL : List Nat → Nat
  | [] => 0
  | g :: p => mkL p ||| 2 ^ g
theorem mkL_tb {h : Nat} : ∀ p, (mkL p).testBit h = decide (h ∈ p)
  | [] => by
    show (0 : Nat).testBit h = _
    rw [Nat.zero_testBit]
    exact (decide_eq_false List.not_mem_nil).symm
  | g :: p => by
    show (mkL p ||| 2 ^ g).testBit h = _
    rw [Nat.testBit_or, mkL_tb p, Nat.testBit_two_pow]
    by_cases e : g = h
    · rw [decide_eq_true e, Bool.or_true, decide_eq_true (by rw [e]; exact List.mem_cons_self)]
    · rw [decide_eq_false e, Bool.or_false]
      by_cases q : h ∈ p
      · rw [decide_eq_true q, decide_eq_true (List.mem_cons_of_mem _ q)]
      · rw [decide_eq_false q, decide_eq_false (fun z => (List.mem_cons.mp z).elim (fun z => e z.symm) q)]
theorem mkL_lt : ∀ p : List Nat, (∀ g, g ∈ p → g < 8) → mkL p < 256
  | [], _ => by decide
  | g :: p, h => Nat.or_lt_two_pow (n := 8) (mkL_lt p (rz_tl h)) (p28 (h g List.mem_cons_self))
theorem cnt_p {p : List Nat} {q : Nat → Bool} (hn : p.Nodup) (h8 : ∀ g, g ∈ p → g < 8) : (List.range 8).countP (fun k => q k && decide (k ∈ p)) = p.countP q := by
  have hp : p.Perm ((List.range 8).filter (fun k => decide (k ∈ p))) := (List.perm_ext_iff_of_nodup hn (List.nodup_range.filter _)).mpr fun a => by
    rw [List.mem_filter, List.mem_range, decide_eq_true_eq]
    exact ⟨fun h => ⟨h8 a h, h⟩, fun h => h.2⟩
  rw [hp.countP_eq q, List.countP_filter]
/-- those who come -/
def cmL (m : Nat) : List Nat := (List.range 8).filter (fun k => m.testBit k)
theorem cmL_mem {m g : Nat} (hm : m < 256) : g ∈ cmL m ↔ m.testBit g = true := by
  unfold cmL
  rw [List.mem_filter, List.mem_range]
  exact ⟨fun h => h.2, fun h => ⟨tb_8 hm h, h⟩⟩
theorem cmL_nd {m : Nat} : (cmL m).Nodup := List.nodup_range.filter _
/-- those who sit (the last first), those who don't yet -/
def Cp (m : Nat) (p t : List Nat) : Prop := (p ++ t).Perm (cmL m)
section CP
variable {m : Nat} {p t : List Nat} {g : Nat}
theorem Cp.mem (hm : m < 256) (h : Cp m p t) (hg : g ∈ p ++ t) : m.testBit g = true := (cmL_mem hm).mp (h.mem_iff.mp hg)
theorem Cp.p8 (hm : m < 256) (h : Cp m p t) : ∀ g, g ∈ p → g < 8 := fun g hg => tb_8 hm (h.mem hm (List.mem_append_left _ hg))
theorem Cp.t8 (hm : m < 256) (h : Cp m p t) : ∀ g, g ∈ t → g < 8 := fun g hg => tb_8 hm (h.mem hm (List.mem_append_right _ hg))
theorem Cp.nd (h : Cp m p t) : (p ++ t).Nodup := h.nodup_iff.mpr cmL_nd
theorem Cp.mv (h : Cp m p (g :: t)) : Cp m (g :: p) t := List.perm_middle.symm.trans h
theorem Cp.or (hm : m < 256) (h : Cp m p t) (hg : m.testBit g = true) (hp : g ∉ p) : g ∈ t := (List.mem_append.mp (h.mem_iff.mpr ((cmL_mem hm).mpr hg))).resolve_left hp
theorem Cp.no (h : Cp m p (g :: t)) : g ∉ p := fun z => (List.nodup_append.mp h.nd).2.2 g z g List.mem_cons_self rfl
theorem Cp.lt (hm : m < 256) (h : Cp m p t) : mkL p < 256 := mkL_lt p (h.p8 hm)
theorem Cp.sub (hm : m < 256) (h : Cp m p t) {k : Nat} (hk : (mkL p).testBit k = true) : m.testBit k = true := by
  rw [mkL_tb, decide_eq_true_eq] at hk
  exact h.mem hm (List.mem_append_left _ hk)
theorem Cp.all (hm : m < 256) (h : Cp m p []) : mkL p = m := by
  refine Nat.eq_of_testBit_eq fun k => ?_
  cases hk : m.testBit k with
  | true =>
    have := (List.mem_append.mp (h.mem_iff.mpr ((cmL_mem hm).mpr hk))).resolve_right List.not_mem_nil
    rw [mkL_tb, decide_eq_true this]
  | false =>
    cases hb : (mkL p).testBit k with
    | false => rfl
    | true => rw [h.sub hm hb] at hk; cases hk
theorem Cp.ne (hm : m < 256) (h : Cp m p (g :: t)) : ¬ mkL p = m := fun e => by
  have h1 : m.testBit g = true := h.mem hm (List.mem_append_right _ List.mem_cons_self)
  rw [← e, mkL_tb, decide_eq_true_eq] at h1
  exact h.no h1
end CP
