theorem d_isAhead {μ : Mm} {K : MV → Mm → Prop} {n b a : Nat} {f : Nat → Int32} (pm : Pm n f (μ 58)) (hb : b < 6) (ha : a < 6) (hK : K (mI (bI (bb (f b) a))) μ) : s_X10_isAhead [mO 9 55, mI (nI b), mI (nI a)] μ K := by
  refine g_X10_isAhead ⟨vi_nI hb (by decide), ?_⟩
  rw [nI_clamp (by omega)]
  obtain ⟨q0, hq0, e0⟩ := pm.2.1 b hb
  have outer : ∀ (d r q : Nat) (z5 : MV), r + d = 6 → q < 64 → (∀ y, y < 6 → bb (nI q) y = true → bb (f b) y = true) → (∀ y, y < 6 → ∀ m, m ≤ r → pth (μ 58) m b y → bb (nI q) y = true) →
      Tot e_X10_isAhead K 10 [mO 9 55, mI (nI b), mI (nI a), mI (nI q), mI (nI r), z5] [] μ := by
    intro d
    induction d with
    | zero =>
      intro r q z5 hr hq hs hc
      have e : r = 6 := by omega
      subst e
      refine g_X10_isAhead_10 ?_
      rw [if_pos (show (6 : Int32) ≤ nI 6 by decide)]
      refine d_has ?_
      have e1 : decide ((nI q >>> (nI a &&& 31)) &&& 1 = 1) = bb (nI q) a := rfl
      have e2 : bb (nI q) a = bb (f b) a := by
        rw [Bool.eq_iff_iff]
        refine ⟨hs a ha, fun e => ?_⟩
        obtain ⟨m, p⟩ := (pm.2.2.2.1 b a hb ha).mp e
        exact hc a ha m (by have := pth_5 pm hb ha p; omega) p
      rw [e1, e2, vI_mI]
      exact ⟨zb_bI, hK⟩
    | succ d ih =>
      intro r q z5 hr hq hs hc
      refine g_X10_isAhead_10 ?_
      rw [if_neg (show ¬ (6 : Int32) ≤ nI r from nI_ge (b := 6) (by omega) (by omega))]
      have inner : ∀ (d' z q' : Nat), z + d' = 6 → q' < 64 → (∀ y, y < 6 → bb (nI q') y = true → bb (f b) y = true) → (∀ y, y < 6 → ∀ m, m ≤ r → pth (μ 58) m b y → bb (nI q') y = true) →
          (∀ z', z' < z → ∀ y, y < 6 → ∀ m, m ≤ r → pth (μ 58) m b z' → bb (μ 58 z') y = true → bb (nI q') y = true) →
          Tot e_X10_isAhead K 20 [mO 9 55, mI (nI b), mI (nI a), mI (nI q'), mI (nI r), mI (nI z)] [] μ := by
        intro d'
        induction d' with
        | zero =>
          intro z q' hz hq' hs' hc' h3
          have e : z = 6 := by omega
          subst e
          refine g_X10_isAhead_20 ?_
          rw [if_pos (show (6 : Int32) ≤ nI 6 by decide), nI_1]
          refine ih (r + 1) q' _ (by omega) hq' hs' fun y hy m hm p => ?_
          by_cases hmr : m ≤ r
          · exact hc' y hy m hmr p
          · have : m = r + 1 := by omega
            subst this
            obtain ⟨z', hz', p', e'⟩ := pth_last r b y p
            exact h3 z' hz' y hy r (Nat.le_refl r) p' e'
        | succ d' ih' =>
          intro z q' hz hq' hs' hc' h3
          refine g_X10_isAhead_20 ?_
          rw [if_neg (show ¬ (6 : Int32) ≤ nI z from nI_ge (b := 6) (by omega) (by omega))]
          refine d_has ?_
          have e1 : decide ((nI q' >>> (nI z &&& 31)) &&& 1 = 1) = bb (nI q') z := rfl
          rw [vI_mI, ite_b, e1, nI_1]
          cases hbz : bb (nI q') z with
          | false =>
            rw [cond_false]
            have e2 : nI q' ||| 0 = nI q' := by
              have := (or64 q' hq' 0 (by decide)).2.1
              rw [Nat.or_zero] at this
              exact this
            rw [e2]
            refine ih' (z + 1) q' (by omega) hq' hs' hc' fun z' hz' y hy m hm p e => ?_
            by_cases hzz : z' < z
            · exact h3 z' hzz y hy m hm p e
            · have : z' = z := by omega
              subst this
              have := hc' z' (by omega) m hm p
              rw [hbz] at this
              exact absurd this (by decide)
          | true =>
            rw [cond_true, nI_clamp (by omega)]
            refine ⟨vi_nI (by omega) (by decide), ?_⟩
            obtain ⟨k, hk, ek⟩ := pm.2.1 z (by omega)
            obtain ⟨o1, o2, o3⟩ := or64 q' hq' k hk
            have hm : ∀ y, y < 6 → bb (nI q') y = true → bb (nI (q' ||| k)) y = true := fun y hy e => by rw [o3 y hy, e]; rfl
            rw [ek, o2]
            refine ih' (z + 1) (q' ||| k) (by omega) o1 (fun y hy e => ?_) (fun y hy m hm' p => hm y hy (hc' y hy m hm' p)) (fun z' hz' y hy m hm' p e => ?_)
            · rw [o3 y hy, Bool.or_eq_true] at e
              rcases e with e | e
              · exact hs' y hy e
              · obtain ⟨m, p⟩ := (pm.2.2.2.1 b z hb (by omega)).mp (hs' z (by omega) hbz)
                exact (pm.2.2.2.1 b y hb hy).mpr ⟨m + 1, pth_snoc m b z y (by omega) p (by rw [ek]; exact e)⟩
            · by_cases hzz : z' < z
              · exact hm y hy (h3 z' hzz y hy m hm' p e)
              · have : z' = z := by omega
                subst this
                rw [o3 y hy]
                rw [ek] at e
                rw [e, Bool.or_true]
      exact inner 6 0 q rfl hq hs hc (fun z' hz' => absurd hz' (Nat.not_lt_zero z'))
  rw [e0]
  refine outer 6 0 q0 mU rfl hq0 (fun y hy e => ?_) (fun y hy m hm p => ?_)
  · exact (pm.2.2.2.1 b y hb hy).mpr ⟨0, by show bb (μ 58 b) y = true; rw [e0]; exact e⟩
  · have : m = 0 := by omega
    subst this
    have p' : bb (μ 58 b) y = true := p
    rw [e0] at p'
    exact p'
