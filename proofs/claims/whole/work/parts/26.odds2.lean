/-! ===== ODDS: both sides ===== -/
theorem wy_B {m c : Nat} (hc : c ≤ 10) (s : Nat) : wy (nI s) (nI m) c 8 ≤ 10 ^ 8 := wy_le hc 8
theorem US_B {p : Nat → Int32} {m c : Nat} {x : Int32} (hc : c ≤ 10) (s : Nat) (hs : s ≤ 256) : US p m c x s < 2 ^ 63 := by
  have h1 := US_le (p := p) (x := x) (wy_B (m := m) hc) s
  have h2 : s * 10 ^ 8 ≤ 256 * 10 ^ 8 := Nat.mul_le_mul_right _ hs
  have h3 : 256 * 10 ^ 8 < 2 ^ 63 := by decide
  exact Nat.lt_of_le_of_lt (Nat.le_trans h1 h2) h3
theorem pow_B {n : Nat} (h : n ≤ 8) : 10 ^ n < 2 ^ 63 := Nat.lt_of_le_of_lt (Nat.pow_le_pow_right (by decide) h) (by decide)
theorem pow_27 {n : Nat} (h : n ≤ 8) : 10 ^ n < 2 ^ 27 := Nat.lt_of_le_of_lt (Nat.pow_le_pow_right (by decide) h) (by decide)
def oddA (u lo : Nat) (w : Int32) : Int64 := if w = 0 then lN u / lN (Nat.gcd u lo) else lN lo / lN (Nat.gcd u lo)
theorem c_comesIn {μ : Mm} {K : MV → Mm → Prop} {p : Nat → Int32} {x w : Int32} {m c : Nat} (hm : m < 256) (hc : c ≤ 10) (e5 : μ 3 5 = nI m) (hp : ∀ g, g < 8 → μ 54 g = p g) (hK : K (mJ (oddA (US p m c x (m + 1)) (10 ^ cbN (nI m) 8) w)) μ) : Tot e_X0_comesIn K 11 [mO 0 53, mO 7 3, mI x, mI (nI c), mI w, mJ 0, mU, mI 0, mU, mU, mU, mU, mU] [] μ := by
  have h8 : cbN (nI m) 8 ≤ 8 := cb_le _ 8
  have hU : US p m c x (m + 1) < 2 ^ 63 := US_B hc _ (by omega)
  have l2 : ∀ (d i : Nat), i + d = cbN (nI m) 8 → Tot e_X0_comesIn K 66 [mO 0 53, mO 7 3, mI x, mI (nI c), mI w, mJ (lN (US p m c x (m + 1))), mU, mJ (lN (10 ^ i)), mU, mI (nI i), mU, mU, mU] [] μ := by
    intro d
    induction d with
    | zero =>
      intro i hi
      have e : i = cbN (nI m) 8 := by omega
      refine g_X0_comesIn_66 ?_
      rw [e5]
      refine c_bitCount hm ?_
      rw [vI_mI, bits_cb, if_pos (by rw [e]; exact nI_le (Nat.le_refl _) (by omega))]
      rw [← e] at hK h8
      refine c_common hU (pow_B h8) ?_
      rw [eu_gcd 27 1000 _ _ (pow_27 h8) (by decide), vJ_mJ]
      have hpos : 0 < Nat.gcd (US p m c x (m + 1)) (10 ^ i) := Nat.gcd_pos_of_pos_right _ (Nat.pow_pos (by decide))
      have hlt : Nat.gcd (US p m c x (m + 1)) (10 ^ i) < 2 ^ 63 := Nat.lt_of_le_of_lt (Nat.gcd_le_right _ (Nat.pow_pos (by decide))) (pow_B h8)
      have hne : ¬ lN (Nat.gcd (US p m c x (m + 1)) (10 ^ i)) = 0 := fun q => by have := (lN_0 hlt).mp q; omega
      have hcm := cmp_le hlt hpos
      unfold oddA at hK
      split
      · rename_i q
        rw [if_pos q] at hK
        exact ⟨hne, hK⟩
      · rename_i q
        rw [if_neg q] at hK
        exact ⟨hne, hK⟩
    | succ d ih =>
      intro i hi
      refine g_X0_comesIn_66 ?_
      rw [e5]
      refine c_bitCount hm ?_
      rw [vI_mI, bits_cb, if_neg (nI_ge (by omega) (by omega)), show (10 : Int64) = lN 10 from rfl, lN_mul, ← Nat.pow_succ]
      have := ih (i + 1) (by omega)
      rw [← nI_1] at this
      exact this
  have l1 : ∀ (d i : Nat), i + d = m + 1 → Tot e_X0_comesIn K 11 [mO 0 53, mO 7 3, mI x, mI (nI c), mI w, mJ (lN (US p m c x i)), mU, mI (nI i), mU, mU, mU, mU, mU] [] μ := by
    intro d
    induction d with
    | zero =>
      intro i hi
      have e : i = m + 1 := by omega
      refine g_X0_comesIn_11 ?_
      rw [e5, if_pos (nI_lt (by omega) (by omega)), e]
      exact l2 (cbN (nI m) 8) 0 (by omega)
    | succ d ih =>
      intro i hi
      refine g_X0_comesIn_11 ?_
      rw [e5, if_neg (nI_nlt (by omega) (by omega))]
      have hs : US p m c x (i + 1) = US p m c x i + (bif subB m i then (if PB p (nI i) 8 < x then 0 else wy (nI i) (nI m) c 8) else 0) := rfl
      have := ih (i + 1) (by omega)
      rw [← nI_1, hs] at this
      split
      · rename_i q
        have hsb : subB m i = true := decide_eq_true q
        rw [hsb, cond_true] at this
        refine c_paidBy hp ?_
        rw [vI_mI]
        split
        · rename_i q2
          rw [if_pos q2, Nat.add_zero] at this
          exact this
        · rename_i q2
          rw [if_neg q2] at this
          refine c_waysOf hc ?_
          have e1 : vS μ 3 0 1 = nI m := e5
          rw [e1, vJ_mJ, lN_add]
          exact this
      · rename_i q
        have hsb : subB m i = false := decide_eq_false q
        rw [hsb, cond_false, Nat.add_zero] at this
        exact this
  exact l1 (m + 1) 0 (by omega)
theorem d_odds {μ : Mm} {K : MV → Mm → Prop} {x w : Int32} {m c : Nat} (hm : m < 256) (hc : c ≤ 10) (e1 : vM μ 0 1 = nI m) (hp : ∀ g, g < 8 → μ 69 g = payC (vM μ) g) (hK : K (mJ (oddA (US (payC (vM μ)) m c x (m + 1)) (10 ^ cbN (nI m) 8) w)) μ) : Tot e_X10_odds K 53 [mO 9 55, mI x, mI (nI c), mI w, mI (nI (cbN (nI m) 8)), mJ 0, mU, mI 0, mU, mU, mU, mU, mU, mU, mU] [] μ := by
  have h8 : cbN (nI m) 8 ≤ 8 := cb_le _ 8
  have hU : US (payC (vM μ)) m c x (m + 1) < 2 ^ 63 := US_B hc _ (by omega)
  have e55 : μ 55 1 = nI m := e1
  have e10 : Int32.toInt64 (10 - nI c) = lN (10 - c) := by
    rw [show (10 : Int32) = nI 10 from rfl, nI_sub hc, nI_l (by omega)]
  have ec : Int32.toInt64 (nI c) = lN c := nI_l (by omega)
  have l1 : ∀ (d i : Nat), i + d = 256 → Tot e_X10_odds K 53 [mO 9 55, mI x, mI (nI c), mI w, mI (nI (cbN (nI m) 8)), mJ (lN (US (payC (vM μ)) m c x i)), mU, mI (nI i), mU, mU, mU, mU, mU, mU, mU] [] μ := by
    intro d
    induction d with
    | zero =>
      intro i hi
      have e : i = 256 := by omega
      subst e
      refine g_X10_odds_53 ?_
      rw [if_pos (show (256 : Int32) ≤ nI 256 from Int32.le_refl _)]
      have htop : US (payC (vM μ)) m c x 256 = US (payC (vM μ)) m c x (m + 1) := by
        have := US_top (p := payC (vM μ)) (c := c) (x := x) hm (255 - m) (by omega)
        rw [show m + 1 + (255 - m) = 256 by omega] at this
        exact this
      rw [htop, show (10 : Int64) = lN 10 from rfl]
      refine d_power (by omega) ?_
      rw [vJ_mJ]
      exact d_gcd (Nat.pow_pos (by decide)) hU (pow_B h8) hK _ _ mU (pow_B h8) hU rfl
    | succ d ih =>
      intro i hi
      refine g_X10_odds_53 ?_
      rw [if_neg (show ¬ (256 : Int32) ≤ nI i from nI_ge (b := 256) (by omega) (by omega)), e55]
      have hs : US (payC (vM μ)) m c x (i + 1) = US (payC (vM μ)) m c x i + (bif subB m i then (if PB (payC (vM μ)) (nI i) 8 < x then 0 else wy (nI i) (nI m) c 8) else 0) := rfl
      have := ih (i + 1) (by omega)
      rw [← nI_1, hs] at this
      split
      · rename_i q
        have hsb : subB m i = true := decide_eq_true q
        rw [hsb, cond_true] at this
        refine d_takenOf hp ?_
        have ecm : μ 55 1 = vM μ 0 1 := rfl
        rw [ecm, PB_come, vI_mI]
        split
        · rename_i q2
          rw [if_pos q2, Nat.add_zero] at this
          exact this
        · rename_i q2
          rw [if_neg q2] at this
          obtain ⟨w1, w2⟩ := wy_pow (s := nI i) (m := nI m) (c := c) (fun k hk hb => sub_bits hm hk hsb hb) 8 (Nat.le_refl 8)
          have hb8 : cbN (nI i) 8 ≤ 8 := cb_le _ 8
          refine d_bits ?_
          rw [vI_mI, bits_cb, ec]
          refine d_power (by omega) (d_bits ?_)
          rw [vI_mI, bits_cb, e10, nI_sub w1]
          refine d_power (by omega) ?_
          rw [vJ_mJ, vJ_mJ, lN_mul, lN_add, ← w2]
          exact this
      · rename_i q
        have hsb : subB m i = false := decide_eq_false q
        rw [hsb, cond_false, Nat.add_zero] at this
        exact this
  exact l1 256 0 rfl
theorem call_odds {μ : Mm} (r : Rl μ) (a b c : Int32) : s_X9_odds [mO 8 0, mI a, mI b, mI c] μ (fun v1 μ1 => s_X10_odds [mO 9 55, mI a, mI b, mI c] μ1 (fun v2 μ2 => Gd v1 v2 μ2)) := by
  have no : (decide (0 ≤ a ∧ a ≤ 9999) = false ∨ (decide (0 ≤ b ∧ b ≤ 10) = false ∨ decide (0 ≤ c ∧ c ≤ 1) = false)) → s_X10_odds [mO 9 55, mI a, mI b, mI c] μ (fun v2 μ2 => Gd (mJ (-1000000000000000002)) v2 μ2) := by
    intro h
    refine g_X10_odds (d_in ?_)
    rw [vI_mI, ite_b]
    cases ha : decide (0 ≤ a ∧ a ≤ 9999) with
    | false => exact ⟨rfl, r⟩
    | true =>
      have h := h.resolve_left (by rw [ha]; decide)
      rw [cond_true]
      refine d_in ?_
      rw [vI_mI, ite_b]
      cases hb : decide (0 ≤ b ∧ b ≤ 10) with
      | false => exact ⟨rfl, r⟩
      | true =>
        rw [cond_true]
        refine d_in ?_
        rw [vI_mI, ite_b, h.resolve_left (by rw [hb]; decide)]
        exact ⟨rfl, r⟩
  refine g_X9_odds (c_within ?_)
  rw [vI_mI, ite_b]
  cases ha : decide (0 ≤ a ∧ a ≤ 9999) with
  | false => exact no (Or.inl ha)
  | true =>
    rw [cond_true]
    refine c_within ?_
    rw [vI_mI, ite_b]
    cases hb : decide (0 ≤ b ∧ b ≤ 10) with
    | false => exact no (Or.inr (Or.inl hb))
    | true =>
      rw [cond_true]
      refine c_within ?_
      rw [vI_mI, ite_b]
      cases hc : decide (0 ≤ c ∧ c ≤ 1) with
      | false => exact no (Or.inr (Or.inr hc))
      | true =>
        rw [cond_true]
        have hb2 := of_decide_eq_true hb
        obtain ⟨k, hk, rfl⟩ := nI_btw (n := 10) (by omega) hb2.1 hb2.2
        obtain ⟨m, hm, e3, e55⟩ := r.f1
        refine g_X0_comesIn (c_readPay r.wbX (by omega) ?_)
        have ha1 : AgX μ (mW μ 54 (Fi (payC (vS μ 3)) (μ 54) 8)) := fun c k e => by rw [mW_c (fun z => by rw [z] at e; cases e)]
        refine c_comesIn (p := payC (vM μ)) hm hk (by rw [mW_c (by decide)]; exact e3) (fun g hg => by rw [mW_eq, Fi_lt hg, r.v]) ?_
        have r2 := ha1.Rl r
        refine g_X10_odds (d_in ?_)
        rw [vI_mI, ite_b, ha, cond_true]
        refine d_in ?_
        rw [vI_mI, ite_b, hb, cond_true]
        refine d_in ?_
        rw [vI_mI, ite_b, hc, cond_true]
        refine d_layPays r2.wb r2.w9 fun μ2 ha2 hp2 => ?_
        have ev : vM μ2 = vM μ := ha2.vM.trans ha1.vM
        have em : μ2 55 1 = nI m := by
          have : vM μ2 0 1 = vM μ 0 1 := by rw [ev]
          exact this.trans e55
        rw [em]
        refine d_bits ?_
        rw [vI_mI, bits_cb]
        refine d_odds hm hk em (fun g hg => by rw [hp2 g hg, ha2.vM]) ⟨?_, ha2.Rl r2⟩
        rw [ev, vJ_mJ]
