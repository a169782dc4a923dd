/-! ===== SEATING: the reference ===== -/
section SM
variable {μ : Mm} {K : MV → Mm → Prop} {m : Nat} {φ E : Nat → Nat}
theorem d_risen {n a : Nat} {f w : Nat → Nat} (hn : n ≤ 8) (hp : rzP n f) (e0 : μ 55 0 = nI a) (ha : a ≤ 6) (e63 : ∀ k, k < n → μ 63 k = nI (f k)) (e67 : ∀ k, k < n → μ 67 k = nI (E (w k))) (hE : ∀ g, E g ≤ a) (hK : K (mI (nI (RN E (fun k => w (f k)) n))) μ) : s_X10_risen [mO 9 55, mI (nI n)] μ K := by
  refine g_X10_risen ?_
  have lp : ∀ (d k : Nat) (z4 z5 z6 z7 : MV), k + d = n → Tot e_X10_risen K 4 [mO 9 55, mI (nI n), mI (nI (smN (rsk E (fun k => w (f k)) n) k)), mI (nI k), z4, z5, z6, z7] [] μ := by
    intro d
    induction d with
    | zero =>
      intro k z4 z5 z6 z7 hk
      refine g_X10_risen_4 ?_
      rw [if_pos (nI_le (by omega) (by omega))]
      have e : k = n := by omega
      rw [e]
      exact hK
    | succ d ih =>
      intro k z4 z5 z6 z7 hk
      have hfk := hp.lt (k := k) (by omega)
      refine g_X10_risen_4 ?_
      rw [if_neg (nI_ge (by omega) (by omega)), nI_clamp (by omega), e63 k (by omega), nI_clamp (by omega), e67 _ hfk]
      refine ⟨vi_nI (by omega) (by decide), vi_nI (by omega) (by decide), ?_⟩
      have hEk := hE (w (f k))
      have inner : ∀ (d' i : Nat), i + d' = n → Tot e_X10_risen K 31 [mO 9 55, mI (nI n), mI (nI (smN (rsk E (fun k => w (f k)) n) k)), mI (nI k), mI (nI (cuN (lft E (fun k => w (f k)) k) i)), mI (nI (cuN (rgt E (fun k => w (f k)) k) i)), mI (nI (E (w (f k)))), mI (nI i)] [] μ := by
        intro d'
        induction d' with
        | zero =>
          intro i hi
          have ei : i = n := by omega
          subst ei
          have hc1 : cuN (lft E (fun k => w (f k)) k) i ≤ i := cuN_le i
          have hc2 : cuN (rgt E (fun k => w (f k)) k) i ≤ i := cuN_le i
          have hs : smN (rsk E (fun k => w (f k)) i) (k + 1) = smN (rsk E (fun k => w (f k)) i) k + min (cuN (lft E (fun k => w (f k)) k) i) (cuN (rgt E (fun k => w (f k)) k) i) := rfl
          have nx := fun z4 z5 z6 z7 => ih (k + 1) z4 z5 z6 z7 (by omega)
          rw [← nI_1, hs, ← nI_add] at nx
          refine g_X10_risen_31 ?_
          rw [if_pos (nI_le (Nat.le_refl _) (by omega)), e0]
          by_cases q : E (w (f k)) = a
          · rw [if_pos (by rw [q])]
            have z1 : cuN (lft E (fun k => w (f k)) k) i = 0 := cuN_0 i (fun j hj => by
              have := hE (w (f j))
              unfold lft
              rw [decide_eq_false (p := E (w (f k)) < E (w (f j))) (by omega), Bool.and_false])
            rw [z1, Nat.zero_min] at nx
            rw [z1]
            exact nx _ _ _ _
          · rw [if_neg (fun z => q ((nI_eq (by omega) (by omega)).mp z))]
            by_cases q2 : cuN (rgt E (fun k => w (f k)) k) i ≤ cuN (lft E (fun k => w (f k)) k) i
            · rw [if_pos (nI_le q2 (by omega))]
              rw [Nat.min_eq_right q2] at nx
              exact nx _ _ _ _
            · rw [if_neg (nI_ge (by omega) (by omega))]
              rw [Nat.min_eq_left (by omega)] at nx
              exact nx _ _ _ _
        | succ d' ih' =>
          intro i hi
          have hfi := hp.lt (k := i) (by omega)
          have hEi := hE (w (f i))
          have hl : cuN (lft E (fun k => w (f k)) k) (i + 1) = cuN (lft E (fun k => w (f k)) k) i + (bif decide (i < k) && decide (E (w (f k)) < E (w (f i))) then 1 else 0) := rfl
          have hr : cuN (rgt E (fun k => w (f k)) k) (i + 1) = cuN (rgt E (fun k => w (f k)) k) i + (bif decide (k < i) && decide (E (w (f k)) < E (w (f i))) then 1 else 0) := rfl
          have nx := ih' (i + 1) (by omega)
          rw [hl, hr, ← nI_1, ← nI_add, ← nI_add] at nx
          refine g_X10_risen_31 ?_
          have ci : (nI i).toNatClampNeg = i := nI_clamp (by omega)
          have cf : (nI (f i)).toNatClampNeg = f i := nI_clamp (by omega)
          have v1 : vi (nI i) 8 := vi_nI (by omega) (by decide)
          have v2 : vi (nI (f i)) 8 := vi_nI (by omega) (by decide)
          rw [if_neg (nI_ge (by omega) (by omega)), ci, e63 i (by omega), cf, e67 _ hfi]
          rcases Nat.lt_trichotomy i k with q | q | q
          · rw [if_neg (nI_ge q (by omega))]
            refine ⟨v1, v2, ?_⟩
            rw [decide_eq_true q, Bool.true_and, decide_eq_false (p := k < i) (by omega), Bool.false_and] at nx
            by_cases q2 : E (w (f i)) ≤ E (w (f k))
            · rw [if_pos (nI_le q2 (by omega)), if_pos (nI_le (by omega) (by omega))]
              rw [decide_eq_false (p := E (w (f k)) < E (w (f i))) (by omega)] at nx
              exact nx
            · rw [if_neg (nI_ge (by omega) (by omega)), if_pos (nI_le (by omega) (by omega))]
              rw [decide_eq_true (p := E (w (f k)) < E (w (f i))) (by omega)] at nx
              exact nx
          · subst q
            rw [if_pos (Int32.le_refl _), if_pos (Int32.le_refl _)]
            rw [decide_eq_false (p := i < i) (by omega), Bool.false_and] at nx
            exact nx
          · rw [if_pos (nI_le (by omega) (by omega)), if_neg (nI_ge q (by omega))]
            refine ⟨v1, v2, ?_⟩
            rw [decide_eq_true q, Bool.true_and, decide_eq_false (p := i < k) (by omega), Bool.false_and] at nx
            by_cases q2 : E (w (f i)) ≤ E (w (f k))
            · rw [if_pos (nI_le q2 (by omega))]
              rw [decide_eq_false (p := E (w (f k)) < E (w (f i))) (by omega)] at nx
              exact nx
            · rw [if_neg (nI_ge (by omega) (by omega))]
              rw [decide_eq_true (p := E (w (f k)) < E (w (f i))) (by omega)] at nx
              exact nx
      exact inner n 0 (by omega)
  exact lp n 0 mU mU mU mU (by omega)
/-- those beside the k-th -/
def nrk (T : Nat → Nat) (n k : Nat) : Nat := (if 0 < k then 2 ^ T (k - 1) else 0) ||| (if k + 1 < n then 2 ^ T (k + 1) else 0)
theorem nrk_tb {T : Nat → Nat} {n k h : Nat} : (nrk T n k).testBit h = true ↔ (0 < k ∧ h = T (k - 1)) ∨ (k + 1 < n ∧ h = T (k + 1)) := by
  unfold nrk
  rw [Nat.testBit_or, Bool.or_eq_true]
  have e : ∀ (c : Prop) [Decidable c] (x : Nat), (if c then 2 ^ x else 0).testBit h = true ↔ (c ∧ h = x) := fun c _ x => by
    by_cases q : c
    · rw [if_pos q, Nat.testBit_two_pow, decide_eq_true_eq]
      exact ⟨fun z => ⟨q, z.symm⟩, fun z => z.2.symm⟩
    · rw [if_neg q, Nat.zero_testBit]
      exact ⟨fun z => (by cases z), fun z => absurd z.1 q⟩
  rw [e, e]
theorem d_keepsFriends {f : Nat → Nat} (hm : m < 256) (hφ : ∀ g, g < 8 → φ g < 256) (hp : rzP (pcn m) f) (e1 : μ 55 1 = nI m) (e60 : ∀ g, g < 8 → μ 60 g = nI (φ g)) (e63 : ∀ k, k < pcn m → μ 63 k = nI (f k)) (e66 : ∀ k, k < pcn m → μ 66 k = nI (wh m k)) (h1 : KF φ (fun k => wh m (f k)) (pcn m) → K (mI 1) μ) (h0 : ¬ KF φ (fun k => wh m (f k)) (pcn m) → K (mI 0) μ) : s_X10_keepsFriends [mO 9 55, mI (nI (pcn m))] μ K := by
  have hn : pcn m ≤ 8 := pcn_le
  refine g_X10_keepsFriends ?_
  have hcond : ∀ k, k < pcn m → (nI (φ (wh m (f k))) &&& nI m &&& (nI (nrk (fun k => wh m (f k)) (pcn m) k) ^^^ (-1 : Int32)) = 0 ↔ ∀ i, i < pcn m → (φ (wh m (f k))).testBit (wh m (f i)) = true → i + 1 = k ∨ i = k + 1) := by
    intro k hk
    have h8 := wh_8 hm (hp.lt hk)
    rw [← nI_and, andn (Nat.lt_of_le_of_lt Nat.and_le_left (hφ _ h8))]
    constructor
    · intro H i hi e
      have hmi := wh_m hm (hp.lt hi)
      have := H (wh m (f i)) (wh_8 hm (hp.lt hi)) (by rw [Nat.testBit_and, e, hmi]; rfl)
      rcases nrk_tb.mp this with ⟨q1, q2⟩ | ⟨q1, q2⟩
      · left
        have := wh_inj hp i (k - 1) hi (by omega) q2
        omega
      · right
        exact wh_inj hp i (k + 1) hi q1 q2
    · intro H h hh e
      rw [Nat.testBit_and, Bool.and_eq_true] at e
      obtain ⟨j, hj, rfl⟩ := wh_ex hm e.2
      obtain ⟨i, hi, rfl⟩ := hp.ex hj
      refine nrk_tb.mpr ?_
      rcases H i hi e.1 with q | q
      · left
        refine ⟨by omega, ?_⟩
        rw [show k - 1 = i by omega]
      · right
        refine ⟨by omega, ?_⟩
        rw [q]
  have lp : ∀ (d k : Nat) (b : Bool) (z4 z5 : MV), k + d = pcn m → (b = true ↔ ∀ j, j < k → ∀ i, i < pcn m → (φ (wh m (f j))).testBit (wh m (f i)) = true → i + 1 = j ∨ i = j + 1) → Tot e_X10_keepsFriends K 4 [mO 9 55, mI (nI (pcn m)), mI (bI b), mI (nI k), z4, z5] [] μ := by
    intro d
    induction d with
    | zero =>
      intro k b z4 z5 hk hb
      have e : k = pcn m := by omega
      subst e
      refine g_X10_keepsFriends_4 ?_
      rw [if_pos (nI_le (Nat.le_refl _) (by omega))]
      refine ⟨zb_bI, ?_⟩
      cases b with
      | true => exact h1 (fun k hk i hi e => hb.mp rfl k hk i hi e)
      | false => exact h0 (fun H => by have := hb.mpr (fun j hj i hi e => H j hj i hi e); cases this)
    | succ d ih =>
      intro k b z4 z5 hk hb
      have hkn : k < pcn m := by omega
      have hfk := hp.lt hkn
      have hwk := wh_8 hm hfk
      have fin : ∀ (NE : Int32), NE = nI (nrk (fun k => wh m (f k)) (pcn m) k) → (if bI b = 0 then Tot e_X10_keepsFriends K 4 [mO 9 55, mI (nI (pcn m)), mI 0, mI (nI k + 1), mI (nI (wh m (f k))), mI NE] [] μ else (vi (nI (wh m (f k))) 8 ∧ (if ((μ 60 (nI (wh m (f k))).toNatClampNeg) &&& (μ 55 1)) &&& (NE ^^^ (-1)) = 0 then Tot e_X10_keepsFriends K 4 [mO 9 55, mI (nI (pcn m)), mI 1, mI (nI k + 1), mI (nI (wh m (f k))), mI NE] [] μ else Tot e_X10_keepsFriends K 4 [mO 9 55, mI (nI (pcn m)), mI 0, mI (nI k + 1), mI (nI (wh m (f k))), mI NE] [] μ))) := by
        intro NE hNE
        rw [ite_b, nI_1]
        cases b with
        | false =>
          refine ih (k + 1) false _ _ (by omega) ⟨fun z => (by cases z), fun H => hb.mpr (fun j hj => H j (by omega))⟩
        | true =>
          rw [cond_true, nI_clamp (by omega), e60 _ hwk, e1]
          refine ⟨vi_nI hwk (by decide), ?_⟩
          by_cases q : nI (φ (wh m (f k))) &&& nI m &&& (NE ^^^ (-1 : Int32)) = 0
          · rw [if_pos q]
            rw [hNE] at q
            have q2 := (hcond k hkn).mp q
            refine ih (k + 1) true _ _ (by omega) ⟨fun _ j hj => ?_, fun _ => rfl⟩
            by_cases e : j = k
            · rw [e]; exact q2
            · exact hb.mp rfl j (by omega)
          · rw [if_neg q]
            rw [hNE] at q
            refine ih (k + 1) false _ _ (by omega) ⟨fun z => (by cases z), fun H => absurd ((hcond k hkn).mpr (H k (by omega))) q⟩
      refine g_X10_keepsFriends_4 ?_
      have ck : (nI k).toNatClampNeg = k := nI_clamp (by omega)
      have cf : (nI (f k)).toNatClampNeg = f k := nI_clamp (by omega)
      rw [if_neg (nI_ge hkn (by omega)), ck, e63 k hkn, cf, e66 _ hfk]
      refine ⟨vi_nI (by omega) (by decide), vi_nI (by omega) (by decide), ?_⟩
      have hA : ∀ j, j < pcn m → (1 : Int32) <<< (nI (wh m (f j)) &&& 31) = nI (2 ^ wh m (f j)) := fun j hj => shl8 _ (wh_8 hm (hp.lt hj))
      by_cases hk0 : k = 0
      · rw [if_pos (show nI k ≤ 0 by rw [hk0]; decide), nI_1]
        by_cases hk1 : k + 1 < pcn m
        · have hf1 := hp.lt hk1
          rw [if_neg (nI_ge hk1 (by omega)), nI_clamp (n := k + 1) (by omega), e63 _ hk1, nI_clamp (n := f (k + 1)) (by omega), e66 _ hf1, hA _ hk1]
          refine ⟨vi_nI (by omega) (by decide), vi_nI (by omega) (by decide), ?_⟩
          have := fin (0 ||| nI (2 ^ wh m (f (k + 1)))) (by
            unfold nrk
            rw [if_neg (by omega), if_pos hk1, nI_or]
            rfl)
          rw [nI_1] at this
          exact this
        · rw [if_pos (nI_le (by omega) (by omega))]
          have := fin (0 ||| 0) (by
            unfold nrk
            rw [if_neg (by omega), if_neg hk1, nI_or]
            rfl)
          rw [nI_1] at this
          exact this
      · have hkp : k - 1 < pcn m := by omega
        have hfp := hp.lt hkp
        have ep : nI k - 1 = nI (k - 1) := by rw [show nI k = nI (k - 1 + 1) by rw [show k - 1 + 1 = k by omega], nI_pred]
        rw [if_neg (nI_nle (by omega) (by omega)), ep, nI_clamp (n := k - 1) (by omega), e63 _ hkp, nI_clamp (n := f (k - 1)) (by omega), e66 _ hfp, hA _ hkp, nI_1]
        refine ⟨vi_nI (by omega) (by decide), vi_nI (by omega) (by decide), ?_⟩
        by_cases hk1 : k + 1 < pcn m
        · have hf1 := hp.lt hk1
          rw [if_neg (nI_ge hk1 (by omega)), nI_clamp (n := k + 1) (by omega), e63 _ hk1, nI_clamp (n := f (k + 1)) (by omega), e66 _ hf1, hA _ hk1]
          refine ⟨vi_nI (by omega) (by decide), vi_nI (by omega) (by decide), ?_⟩
          have := fin (nI (2 ^ wh m (f (k - 1))) ||| nI (2 ^ wh m (f (k + 1)))) (by
            unfold nrk
            rw [if_pos (by omega), if_pos hk1, nI_or])
          rw [nI_1] at this
          exact this
        · rw [if_pos (nI_le (by omega) (by omega))]
          have := fin (nI (2 ^ wh m (f (k - 1))) ||| 0) (by
            unfold nrk
            rw [if_pos (by omega), if_neg hk1, nI_or]
            rfl)
          rw [nI_1] at this
          exact this
  have := lp (pcn m) 0 true mU mU (by omega) ⟨fun _ j hj => absurd hj (Nat.not_lt_zero j), fun _ => rfl⟩
  exact this
end SM
