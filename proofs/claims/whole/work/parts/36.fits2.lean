/-! ===== FITS ===== -/
def fs (p : Nat → Bool) : Nat → Int32 × Int32 × Int32
  | 0 => (0, -6, -6)
  | t + 1 => bif p t then (if (fs p t).1 = 0 then ((fs p t).1 + 1, nI t, nI t) else ((fs p t).1 + 1, (fs p t).2.1, nI t)) else fs p t
def f3 (z : Int32) (s : Int32 × Int32 × Int32) : Int32 := if z = 0 then s.1 else if z = 1 then s.2.1 else s.2.2
def pt (w : Vw) (i g k6 t : Nat) : Bool := sn (mS w 1 i (nI t - 10)) g k6
theorem lt25 : ∀ t, t < 37 → ((25 : Int32) < nI t - 10 ↔ 36 ≤ t) := by decide +kernel
theorem m10_1 (t : Nat) : nI t - 10 + 1 = nI (t + 1) - 10 := by
  rw [← nI_1]
  generalize nI t = x
  grind
theorem m10_a (t : Nat) : nI t - 10 - (-10) = nI t := by
  generalize nI t = x
  grind
theorem m10_b (t : Nat) : nI t - 10 + 10 = nI t := by
  generalize nI t = x
  grind
theorem wr_wb {v : Vw} {i : Nat} {x : Int32} (h : Wb v) : Wb (mS v 1 i x) := h
theorem wr_w9 {v : Vw} {i : Nat} {x : Int32} (h : W9 v) : W9 (mS v 1 i x) := h
theorem wr_bs {v : Vw} {i : Nat} {x y : Int32} : mS (mS v 1 i y) 0 2 x = mS (mS v 0 2 x) 1 i y := mS_comm (fun z => absurd z.1 (by decide))
theorem c_fits {μ : Mm} {K : MV → Mm → Prop} {w : Vw} {g a k6 : Nat} {z : Int32} (hw : Wb w) (hk6 : k6 ≤ 6) (h6 : w 0 6 = nI k6) (hg : g < 8) (ha6 : a < 6) (hv : vS μ 13 = w)
    (hK : ∀ μ', AgX μ μ' → K (mI (f3 z (fs (pt w (6 * g + a) g k6) 36))) μ') : s_X7_worthsThatFit [mO 7 13, mI (nI g), mI (nI a), mI z] μ K := by
  refine g_X7_worthsThatFit ?_
  have lp : ∀ (d t : Nat) (μ' : Mm), t + d = 36 → AgX μ μ' → (∀ x y, mS (mS (vS μ' 13) 0 2 x) 1 (6 * g + a) y = mS (mS w 0 2 x) 1 (6 * g + a) y) →
      Tot e_X7_worthsThatFit K 15 [mO 7 13, mI (nI g), mI (nI a), mI z, mI (fs (pt w (6 * g + a) g k6) t).1, mI (fs (pt w (6 * g + a) g k6) t).2.1, mI (fs (pt w (6 * g + a) g k6) t).2.2, mI (nI t - 10)] [] μ' := by
    intro d
    induction d with
    | zero =>
      intro t μ' ht ha hq
      have e : t = 36 := by omega
      subst e
      refine g_X7_worthsThatFit_15 ?_
      rw [if_pos ((lt25 36 (by decide)).mpr (Nat.le_refl _))]
      have hK := hK μ' ha
      unfold f3 at hK
      split
      · rename_i q; rw [if_pos q] at hK; exact hK
      · rename_i q
        rw [if_neg q] at hK
        split
        · rename_i q2; rw [if_pos q2] at hK; exact hK
        · rename_i q2; rw [if_neg q2] at hK; exact hK
    | succ d ih =>
      intro t μ' ht ha hq
      refine g_X7_worthsThatFit_15 ?_
      rw [if_neg (fun q => absurd ((lt25 t (by omega)).mp q) (by omega))]
      refine g_X8_putWorth ?_
      rw [lit6']
      refine c_put (by omega) (by decide) ?_
      have hq2 : ∀ x, mS (vS (mS μ' (13 + 2) (6 * g + a) (nI t - 10)) 13) 0 2 x = mS (mS w 1 (6 * g + a) (nI t - 10)) 0 2 x := fun x => by
        rw [vS_wr (by omega), wr_bs, wr_bs]
        exact hq x _
      refine c_allow (u := mS w 1 (6 * g + a) (nI t - 10)) (k6 := k6) (wr_wb hw) hk6 ((congrFun (mS_c (by decide)) 6).trans h6) hg hq2 fun μ1 ha1 hq1 => ?_
      have ha2 : AgX μ μ1 := AgX.tr (ha.st rfl) ha1
      have hq3 : ∀ x y, mS (mS (vS μ1 13) 0 2 x) 1 (6 * g + a) y = mS (mS w 0 2 x) 1 (6 * g + a) y := fun x y => by
        rw [hq1, wr_bs, mS_mS]
      have hs : fs (pt w (6 * g + a) g k6) (t + 1) = bif pt w (6 * g + a) g k6 t then (if (fs (pt w (6 * g + a) g k6) t).1 = 0 then ((fs (pt w (6 * g + a) g k6) t).1 + 1, nI t, nI t) else ((fs (pt w (6 * g + a) g k6) t).1 + 1, (fs (pt w (6 * g + a) g k6) t).2.1, nI t)) else fs (pt w (6 * g + a) g k6) t := rfl
      have := ih (t + 1) μ1 (by omega) ha2 hq3
      have hp : sn (mS w 1 (6 * g + a) (nI t - 10)) g k6 = pt w (6 * g + a) g k6 t := rfl
      rw [vI_mI, ite_b, hp, m10_1, m10_a]
      cases hb : pt w (6 * g + a) g k6 t with
      | false =>
        rw [hb, cond_false] at hs
        rw [hs] at this
        exact this
      | true =>
        rw [hb, cond_true] at hs
        rw [cond_true]
        split
        · rename_i q
          rw [if_pos q] at hs
          rw [hs] at this
          exact this
        · rename_i q
          rw [if_neg q] at hs
          rw [hs] at this
          exact this
  exact lp 36 0 μ rfl (AgX.rf μ) (fun x y => by rw [hv])
theorem d_fits {μ : Mm} {K : MV → Mm → Prop} {w : Vw} {g a k6 : Nat} {z : Int32} (hv : vM μ = w) (hw : Wb w) (h9 : W9 w) (hk6 : k6 ≤ 6) (h6 : w 0 6 = nI k6) (hg : g < 8) (ha6 : a < 6)
    (hK : ∀ μ', AgM μ μ' → K (mI (f3 z (fs (pt w (6 * g + a) g k6) 36))) μ') : Tot e_X10_fits K 58 [mO 9 55, mI (nI g), mI (nI a), mI z, mI (μ 56 (6 * g + a)), mI 0, mI (-6), mI (-6), mI (-10)] [] μ := by
  have x6 : (6 : Int32) * nI g + nI a = nI (6 * g + a) := by rw [show (6 : Int32) * nI g = nI (6 * g) from nI_mul 6 g, nI_add]
  have lp : ∀ (d t : Nat) (μ' : Mm), t + d = 36 → (∀ c k, sMb c k = false → ¬ (c = 56 ∧ k = 6 * g + a) → μ' c k = μ c k) → (∀ y, mS (vM μ') 1 (6 * g + a) y = mS w 1 (6 * g + a) y) →
      Tot e_X10_fits K 58 [mO 9 55, mI (nI g), mI (nI a), mI z, mI (μ 56 (6 * g + a)), mI (fs (pt w (6 * g + a) g k6) t).1, mI (fs (pt w (6 * g + a) g k6) t).2.1, mI (fs (pt w (6 * g + a) g k6) t).2.2, mI (nI t - 10)] [] μ' := by
    intro d
    induction d with
    | zero =>
      intro t μ' ht ha hq
      have e : t = 36 := by omega
      subst e
      refine g_X10_fits_58 ?_
      rw [if_pos ((lt25 36 (by decide)).mpr (Nat.le_refl _)), x6, nI_clamp (by omega)]
      refine ⟨vi_nI (by omega) (by decide), ?_⟩
      have hK := hK (mS μ' 56 (6 * g + a) (μ 56 (6 * g + a))) (fun c k e => by
        by_cases e2 : c = 56 ∧ k = 6 * g + a
        · rw [e2.1, e2.2, mS_eq]
        · rw [mS_ne e2]
          exact ha c k e e2)
      unfold f3 at hK
      split
      · rename_i q; rw [if_pos q] at hK; exact hK
      · rename_i q
        rw [if_neg q] at hK
        split
        · rename_i q2; rw [if_pos q2] at hK; exact hK
        · rename_i q2; rw [if_neg q2] at hK; exact hK
    | succ d ih =>
      intro t μ' ht ha hq
      refine g_X10_fits_58 ?_
      rw [if_neg (fun q => absurd ((lt25 t (by omega)).mp q) (by omega)), x6, nI_clamp (by omega)]
      refine ⟨vi_nI (by omega) (by decide), ?_⟩
      have ev : vM (mS μ' 56 (6 * g + a) (nI t - 10)) = mS w 1 (6 * g + a) (nI t - 10) := by
        rw [vM_wr (by omega)]
        exact hq _
      refine d_isSeen (k6 := k6) (by rw [ev]; exact wr_wb hw) (by rw [ev]; exact wr_w9 h9) hk6 (by rw [ev]; exact (congrFun (mS_c (by decide)) 6).trans h6) hg fun μ1 ha1 => ?_
      have ha2 : ∀ c k, sMb c k = false → ¬ (c = 56 ∧ k = 6 * g + a) → μ1 c k = μ c k := fun c k e hne => by
        rw [ha1 c k e, mS_ne hne]
        exact ha c k e hne
      have hq3 : ∀ y, mS (vM μ1) 1 (6 * g + a) y = mS w 1 (6 * g + a) y := fun y => by
        rw [ha1.vM, ev, mS_mS]
      have hs : fs (pt w (6 * g + a) g k6) (t + 1) = bif pt w (6 * g + a) g k6 t then (if (fs (pt w (6 * g + a) g k6) t).1 = 0 then ((fs (pt w (6 * g + a) g k6) t).1 + 1, nI t, nI t) else ((fs (pt w (6 * g + a) g k6) t).1 + 1, (fs (pt w (6 * g + a) g k6) t).2.1, nI t)) else fs (pt w (6 * g + a) g k6) t := rfl
      have := ih (t + 1) μ1 (by omega) ha2 hq3
      have hp : sn (mS w 1 (6 * g + a) (nI t - 10)) g k6 = pt w (6 * g + a) g k6 t := rfl
      rw [ev, vI_mI, ite_b, hp, m10_1, m10_b]
      cases hb : pt w (6 * g + a) g k6 t with
      | false =>
        rw [hb, cond_false] at hs
        rw [hs] at this
        exact this
      | true =>
        rw [hb, cond_true] at hs
        rw [cond_true]
        split
        · rename_i q
          rw [if_pos q] at hs
          rw [hs] at this
          exact this
        · rename_i q
          rw [if_neg q] at hs
          rw [hs] at this
          exact this
  exact lp 36 0 μ rfl (fun _ _ _ _ => rfl) (fun y => by rw [hv])
theorem call_fits {μ : Mm} (r : Rl μ) (a b c : Int32) : s_X9_fits [mO 8 0, mI a, mI b, mI c] μ (fun v1 μ1 => s_X10_fits [mO 9 55, mI a, mI b, mI c] μ1 (fun v2 μ2 => Gd v1 v2 μ2)) := by
  refine g_X9_fits (c_comes ?_)
  rw [vI_mI, ite_b, r.v]
  cases hc : cmB (vM μ) a with
  | false =>
    rw [cond_false]
    refine g_X10_fits (d_comes ?_)
    rw [vI_mI, ite_b, hc]
    exact ⟨rfl, r⟩
  | true =>
    rw [cond_true]
    refine c_hasAct ?_
    rw [vI_mI, ite_b, r.n3]
    cases hb : decide (0 ≤ b ∧ b ≤ nI (nA (vM μ)) - 1) with
    | false =>
      rw [cond_false]
      refine g_X10_fits (d_comes ?_)
      rw [vI_mI, ite_b, hc, cond_true]
      refine d_isAct ?_
      rw [vI_mI, ite_b, r.n55, hb]
      exact ⟨rfl, r⟩
    | true =>
      rw [cond_true]
      refine c_within ?_
      rw [vI_mI, ite_b]
      cases hd : decide (0 ≤ c ∧ c ≤ 2) with
      | false =>
        rw [cond_false]
        refine g_X10_fits (d_comes ?_)
        rw [vI_mI, ite_b, hc, cond_true]
        refine d_isAct ?_
        rw [vI_mI, ite_b, r.n55, hb, cond_true]
        refine d_in ?_
        rw [vI_mI, ite_b, hd]
        exact ⟨rfl, r⟩
      | true =>
        rw [cond_true]
        obtain ⟨g, hg, rfl⟩ := gst_in hc
        obtain ⟨k, hk, rfl⟩ := act_in r.n1 r.n6 hb
        have h6 := r.n6
        obtain ⟨k6, hk6, e6⟩ := r.wf.2.2.2.2.2.2.1
        refine c_tried fun μ1 ha1 hv1 _ => ?_
        refine c_fits (w := vM μ) (k6 := k6) r.wb hk6 e6 hg (by omega) (by rw [hv1, r.v]) fun μ2 ha2 => ?_
        have ha3 : AgX μ μ2 := ha1.tr ha2
        have r3 : Rl μ2 := ha3.Rl r
        refine g_X10_fits (d_comes ?_)
        rw [vI_mI, ite_b, ha3.vM, hc, cond_true]
        refine d_isAct ?_
        rw [vI_mI, ite_b, r3.n55, ha3.vM, hb, cond_true]
        refine d_in ?_
        rw [vI_mI, ite_b, hd, cond_true, lit6, nI_clamp (by omega)]
        refine ⟨vi_nI (by omega) (by decide), ?_⟩
        exact d_fits (k6 := k6) ha3.vM r.wb r.w9 hk6 e6 hg (by omega) fun μ4 ha4 => ⟨rfl, ha4.Rl r3⟩
