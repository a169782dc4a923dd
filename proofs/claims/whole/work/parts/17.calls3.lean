/-! ===== calls that change the state, by small writes ===== -/
theorem call_forget {μ : Mm} (r : Rl μ) : s_X9_forget [mO 8 0] μ (fun v1 μ1 => s_X10_forget [mO 9 55] μ1 (fun v2 μ2 => Gd v1 v2 μ2)) := by
  refine g_X9_forget (g_X10_forget ⟨?_, ?_⟩)
  · rw [mS_c (by decide), r.s6]
  · skip
    refine Rl_mk ?_ ?_ ?_ ?_ ?_ ?_ ?_ ?_ ?_ ?_ ?_ ?_ ?_ ?_ (r.pi.fr fun c h1 h2 h3 => by simp (disch := omega) only [mS_c])
    · unfold F0r; simp (disch := decide) only [mS_c, mS_k, mS_eq]; exact r.f0
    · unfold F1r; simp (disch := decide) only [mS_c, mS_k, mS_eq]; exact r.f1
    · unfold F2r; simp (disch := decide) only [mS_c, mS_k, mS_eq]; exact r.f2
    · unfold F3r; simp (disch := decide) only [mS_c, mS_k, mS_eq]; exact r.f3
    · unfold F4r; simp (disch := decide) only [mS_c, mS_k, mS_eq]; exact r.f4
    · unfold F5r; simp (disch := decide) only [mS_c, mS_k, mS_eq]; exact r.f5
    · unfold F6r; simp (disch := decide) only [mS_c, mS_k, mS_eq]; exact ⟨0, by omega, rfl, rfl⟩
    · unfold G1r; simp (disch := decide) only [mS_c, mS_k, mS_eq]; exact r.g1
    · unfold G2r; simp (disch := decide) only [mS_c, mS_k, mS_eq]; exact r.g2
    · unfold G3r; simp (disch := decide) only [mS_c, mS_k, mS_eq]; exact r.g3
    · unfold G4r; simp (disch := decide) only [mS_c, mS_k, mS_eq]; exact r.g4
    · unfold G5r; simp (disch := decide) only [mS_c, mS_k, mS_eq]; exact r.g5
    · unfold Ppr; simp (disch := decide) only [mS_c, mS_k, mS_eq]; exact r.pp
    · unfold Pmr; simp (disch := decide) only [mS_c, mS_k, mS_eq]; exact r.pm
theorem call_say {μ : Mm} (r : Rl μ) (a : Int32) : s_X9_say [mO 8 0, mI a] μ (fun v1 μ1 => s_X10_say [mO 9 55, mI a] μ1 (fun v2 μ2 => Gd v1 v2 μ2)) := by
  obtain ⟨hp1, ⟨k, hk, hp2⟩, hp3⟩ := r.pp
  refine g_X9_say (c_within ?_)
  rw [vI_mI, ite_b]
  cases hc : decide (33 ≤ a ∧ a ≤ 126) with
  | false =>
    refine g_X10_say (d_in ?_)
    rw [vI_mI, ite_b, hc]
    exact ⟨rfl, r⟩
  | true =>
    refine g_X3_add ?_
    rw [hp1, hp2]
    by_cases h48 : k = 48
    · subst h48
      rw [if_neg (by decide)]
      refine ⟨zb0, ?_⟩
      rw [vI_mI, if_pos rfl]
      refine g_X10_say (d_in ?_)
      rw [vI_mI, ite_b, hc, cond_true, hp2, if_pos (show nI 48 = 48 from rfl)]
      exact ⟨rfl, r⟩
    · rw [if_pos (show nI k < 48 from nI_lt (b := 48) (by omega) (by omega))]
      refine c_put (by omega) (by decide) ⟨zb1, ?_⟩
      rw [vI_mI, if_neg i10]
      refine g_X10_say (d_in ?_)
      simp (disch := decide) only [mS_c, mS_k, mS_eq]
      rw [vI_mI, ite_b, hc, cond_true, hp2, if_neg (show ¬ nI k = 48 from fun z => h48 ((nI_eq (b := 48) (by omega) (by omega)).mp z)), hp1, hp2, nI_clamp (by omega)]
      refine ⟨vi_nI (by omega) (by decide), rfl, ?_⟩
      refine Rl_mk ?_ ?_ ?_ ?_ ?_ ?_ ?_ ?_ ?_ ?_ ?_ ?_ ?_ ?_ (r.pi.fr fun c h1 h2 h3 => by simp (disch := omega) only [mS_c])
      · unfold F0r; simp (disch := decide) only [mS_c, mS_k, mS_eq]; exact r.f0
      · unfold F1r; simp (disch := decide) only [mS_c, mS_k, mS_eq]; exact r.f1
      · unfold F2r; simp (disch := decide) only [mS_c, mS_k, mS_eq]; exact r.f2
      · unfold F3r; simp (disch := decide) only [mS_c, mS_k, mS_eq]; exact r.f3
      · unfold F4r; simp (disch := decide) only [mS_c, mS_k, mS_eq]; exact r.f4
      · unfold F5r; simp (disch := decide) only [mS_c, mS_k, mS_eq]; exact r.f5
      · unfold F6r; simp (disch := decide) only [mS_c, mS_k, mS_eq]; exact r.f6
      · unfold G1r; simp (disch := decide) only [mS_c, mS_k, mS_eq]; exact r.g1
      · unfold G2r; simp (disch := decide) only [mS_c, mS_k, mS_eq]; exact r.g2
      · unfold G3r; simp (disch := decide) only [mS_c, mS_k, mS_eq]; exact r.g3
      · unfold G4r; simp (disch := decide) only [mS_c, mS_k, mS_eq]; exact r.g4
      · unfold G5r; simp (disch := decide) only [mS_c, mS_k, mS_eq]; exact r.g5
      · unfold Ppr; simp (disch := decide) only [mS_c, mS_k, mS_eq]
        refine ⟨rfl, ⟨k + 1, by omega, nI_1 k⟩, fun i hi => ?_⟩
        by_cases e : i = k
        · subst e; simp only [mS_eq]
        · rw [mS_k e, mS_k e]; exact hp3 i hi
      · unfold Pmr; simp (disch := decide) only [mS_c, mS_k, mS_eq]; exact r.pm
theorem call_other {μ : Mm} (r : Rl μ) (a b : Int32) : s_X9_other [mO 8 0, mI a, mI b] μ (fun v1 μ1 => s_X10_other [mO 9 55, mI a, mI b] μ1 (fun v2 μ2 => Gd v1 v2 μ2)) := by
  refine g_X9_other (c_hasAct ?_)
  rw [vI_mI, ite_b, r.n3]
  cases hb : decide (0 ≤ a ∧ a ≤ nI (nA (vM μ)) - 1) with
  | false =>
    refine g_X10_other (d_isAct ?_)
    rw [vI_mI, ite_b, r.n55, hb]
    exact ⟨rfl, r⟩
  | true =>
    obtain ⟨k, hk, rfl⟩ := act_in r.n1 r.n6 hb
    have h6 := r.n6
    refine c_within ?_
    rw [vI_mI, ite_b]
    cases hc : decide (0 ≤ b ∧ b ≤ 25) with
    | false =>
      refine g_X10_other (d_isAct ?_)
      rw [vI_mI, ite_b, r.n55, hb, cond_true]
      refine d_in ?_
      rw [vI_mI, ite_b, hc]
      exact ⟨rfl, r⟩
    | true =>
      refine c_at (by omega) (by decide) (c_put (by omega) (by decide) ?_)
      refine g_X10_other (d_isAct ?_)
      simp (disch := decide) only [mS_c, mS_k, mS_eq]
      rw [vI_mI, ite_b, r.n55, hb, cond_true]
      refine d_in ?_
      rw [vI_mI, ite_b, hc, cond_true, nI_clamp (by omega), vI_mI]
      refine ⟨vi_nI (by omega) (by decide), vi_nI (by omega) (by decide), by rw [r.e3 (by omega), mS_c (c' := 59) (by decide)], ?_⟩
      refine Rl_mk ?_ ?_ ?_ ?_ ?_ ?_ ?_ ?_ ?_ ?_ ?_ ?_ ?_ ?_ (r.pi.fr fun c h1 h2 h3 => by simp (disch := omega) only [mS_c])
      · unfold F0r; simp (disch := decide) only [mS_c, mS_k, mS_eq]; exact r.f0
      · unfold F1r; simp (disch := decide) only [mS_c, mS_k, mS_eq]; exact r.f1
      · unfold F2r; simp (disch := decide) only [mS_c, mS_k, mS_eq]; exact r.f2
      · unfold F3r; simp (disch := decide) only [mS_c, mS_k, mS_eq]; exact r.f3
      · unfold F4r; simp (disch := decide) only [mS_c, mS_k, mS_eq]; exact r.f4
      · unfold F5r; simp (disch := decide) only [mS_c, mS_k, mS_eq]; exact r.f5
      · unfold F6r; simp (disch := decide) only [mS_c, mS_k, mS_eq]; exact r.f6
      · unfold G1r; simp (disch := decide) only [mS_c, mS_k, mS_eq]; exact r.g1
      · unfold G2r; simp (disch := decide) only [mS_c, mS_k, mS_eq]; exact r.g2
      · unfold G3r; simp (disch := decide) only [mS_c, mS_k, mS_eq]
        intro j hj
        by_cases e : j = k
        · subst e; simp only [mS_eq]
        · rw [mS_k e, mS_k e]; exact r.e3 hj
      · unfold G4r; simp (disch := decide) only [mS_c, mS_k, mS_eq]; exact r.g4
      · unfold G5r; simp (disch := decide) only [mS_c, mS_k, mS_eq]; exact r.g5
      · unfold Ppr; simp (disch := decide) only [mS_c, mS_k, mS_eq]; exact r.pp
      · unfold Pmr; simp (disch := decide) only [mS_c, mS_k, mS_eq]; exact r.pm
theorem two_w {μ : Mm} {c g h : Nat} {x y : Int32} : (mS (mS μ c g x) c h y) c = fun i => if i = h then y else if i = g then x else μ c i := by
  funext i
  unfold mS
  simp only [true_and]
theorem or_bit : ∀ m, m < 256 → ∀ h, h < 8 → (∃ m', m' < 256 ∧ nI m ||| ((1 : Int32) <<< (nI h &&& 31)) = nI m') ∧ ∀ k, k < 8 → bb (nI m ||| ((1 : Int32) <<< (nI h &&& 31))) k = (bb (nI m) k || decide (k = h)) := by
  have e : ∀ m, m < 256 → ∀ h, h < 8 → nI m ||| ((1 : Int32) <<< (nI h &&& 31)) = nI (m ||| 1 <<< h) ∧ m ||| 1 <<< h < 256 ∧ ∀ k, k < 8 → bb (nI m ||| ((1 : Int32) <<< (nI h &&& 31))) k = (bb (nI m) k || decide (k = h)) := by decide +kernel
  intro m hm h hh
  obtain ⟨e1, e2, e3⟩ := e m hm h hh
  exact ⟨⟨_, e2, e1⟩, e3⟩
theorem FrW_set {f : Nat → Int32} (w : FrW f) {g h : Nat} (hg : g < 8) (hh : h < 8) (hne : g ≠ h) : FrW (fun i => if i = h then (f h ||| ((1 : Int32) <<< (nI g &&& 31))) else if i = g then (f g ||| ((1 : Int32) <<< (nI h &&& 31))) else f i) := by
  obtain ⟨w1, w2, w3⟩ := w
  obtain ⟨mg, hmg, eg⟩ := w1 g hg
  obtain ⟨mh, hmh, eh⟩ := w1 h hh
  have og := or_bit mg hmg h hh
  have oh := or_bit mh hmh g hg
  have bits : ∀ i k, i < 8 → k < 8 → bb (if i = h then (f h ||| ((1 : Int32) <<< (nI g &&& 31))) else if i = g then (f g ||| ((1 : Int32) <<< (nI h &&& 31))) else f i) k = (bb (f i) k || (decide (i = h ∧ k = g) || decide (i = g ∧ k = h))) := by
    intro i k hi hk
    by_cases e1 : i = h
    · subst e1
      rw [if_pos rfl, eh, oh.2 k hk]
      have : ¬ i = g := fun z => hne z.symm
      simp [this]
    · rw [if_neg e1]
      by_cases e2 : i = g
      · subst e2
        rw [if_pos rfl, eg, og.2 k hk]
        simp [e1]
      · rw [if_neg e2]
        simp [e1, e2]
  refine ⟨fun i hi => ?_, fun i k hi hk => ?_, fun i hi => ?_⟩
  · show ∃ k, k < 256 ∧ (if i = h then _ else _) = nI k
    by_cases e1 : i = h
    · rw [if_pos e1, eh]; exact oh.1
    · rw [if_neg e1]
      by_cases e2 : i = g
      · rw [if_pos e2, eg]; exact og.1
      · rw [if_neg e2]; exact w1 i hi
  · rw [bits i k hi hk, bits k i hk hi, w2 i k hi hk]
    congr 1
    rw [Bool.or_comm]
    congr 1 <;> (apply decide_eq_decide.mpr; constructor <;> (intro z; exact ⟨z.2, z.1⟩))
  · rw [bits i i hi hi, w3 i hi]
    have h1 : ¬ (i = h ∧ i = g) := fun z => hne (z.2.symm.trans z.1)
    have h2 : ¬ (i = g ∧ i = h) := fun z => hne (z.1.symm.trans z.2)
    simp [h1, h2]
theorem c_befriend {μ : Mm} {K : MV → Mm → Prop} {g h : Nat} (hg : g < 8) (hK : K mU (mS μ 8 g (μ 8 g ||| ((1 : Int32) <<< (nI h &&& 31))))) : s_X8_befriend [mO 7 3, mI (nI g), mI (nI h)] μ K :=
  g_X8_befriend (c_at hg (by decide) (c_put hg (by decide) hK))
theorem call_friends {μ : Mm} (r : Rl μ) (a b : Int32) : s_X9_friends [mO 8 0, mI a, mI b] μ (fun v1 μ1 => s_X10_friends [mO 9 55, mI a, mI b] μ1 (fun v2 μ2 => Gd v1 v2 μ2)) := by
  refine g_X9_friends (c_within ?_)
  rw [vI_mI, ite_b]
  cases ha : decide (0 ≤ a ∧ a ≤ 7) with
  | false =>
    rw [cond_false, if_pos rfl]
    refine g_X10_friends (d_in ?_)
    rw [vI_mI, ite_b, ha]
    exact ⟨rfl, r⟩
  | true =>
    rw [cond_true]
    refine c_within ?_
    rw [vI_mI, ite_b]
    cases hb : decide (0 ≤ b ∧ b ≤ 7) with
    | false =>
      rw [cond_false, if_pos rfl]
      refine g_X10_friends (d_in ?_)
      rw [vI_mI, ite_b, ha, cond_true]
      refine d_in ?_
      rw [vI_mI, ite_b, hb]
      exact ⟨rfl, r⟩
    | true =>
      rw [cond_true, if_neg i10]
      by_cases hab : a = b
      · rw [if_pos hab]
        refine g_X10_friends (d_in ?_)
        rw [vI_mI, ite_b, ha, cond_true]
        refine d_in ?_
        rw [vI_mI, ite_b, hb, cond_true, if_pos hab]
        exact ⟨rfl, r⟩
      · rw [if_neg hab]
        obtain ⟨g, hg, rfl⟩ := nI_btw (n := 7) (by omega) (of_decide_eq_true ha).1 (of_decide_eq_true ha).2
        obtain ⟨h, hh, rfl⟩ := nI_btw (n := 7) (by omega) (of_decide_eq_true hb).1 (of_decide_eq_true hb).2
        have hne : g ≠ h := fun z => hab (by rw [z])
        refine c_befriend (by omega) (c_befriend (by omega) ?_)
        refine g_X10_friends (d_in ?_)
        rw [vI_mI, ite_b, ha, cond_true]
        refine d_in ?_
        rw [vI_mI, ite_b, hb, cond_true, if_neg hab, nI_clamp (by omega), nI_clamp (by omega)]
        refine ⟨vi_nI (by omega) (by decide), vi_nI (by omega) (by decide), vi_nI (by omega) (by decide), vi_nI (by omega) (by decide), rfl, ?_⟩
        rw [mS_k (k' := h) (fun z => hne z.symm)]
        simp (disch := decide) only [mS_c]
        rw [mS_k (k' := h) (fun z => hne z.symm)]
        refine Rl_mk ?_ ?_ ?_ ?_ ?_ ?_ ?_ ?_ ?_ ?_ ?_ ?_ ?_ ?_ (r.pi.fr fun c h1 h2 h3 => by simp (disch := omega) only [mS_c])
        · unfold F0r; simp (disch := decide) only [mS_c, mS_k, mS_eq]; exact r.f0
        · unfold F1r; simp (disch := decide) only [mS_c, mS_k, mS_eq]; exact r.f1
        · unfold F2r; simp (disch := decide) only [mS_c, mS_k, mS_eq]; exact r.f2
        · unfold F3r; simp (disch := decide) only [mS_c, mS_k, mS_eq]; exact r.f3
        · unfold F4r; simp (disch := decide) only [mS_c, mS_k, mS_eq]; exact r.f4
        · unfold F5r; simp (disch := decide) only [mS_c, mS_k, mS_eq]; exact r.f5
        · unfold F6r; simp (disch := decide) only [mS_c, mS_k, mS_eq]; exact r.f6
        · unfold G1r; simp (disch := decide) only [mS_c, mS_k, mS_eq]; exact r.g1
        · unfold G2r; simp (disch := decide) only [mS_c, mS_k, mS_eq]; exact r.g2
        · unfold G3r; simp (disch := decide) only [mS_c, mS_k, mS_eq]; exact r.g3
        · unfold G4r; simp (disch := decide) only [mS_c, mS_k, mS_eq]
          obtain ⟨q1, q2⟩ := r.g4
          have q3 := FrW_set q2 (g := g) (h := h) (by omega) (by omega) hne
          simp (disch := decide) only [two_w, mS_c]
          refine ⟨fun i hi => ?_, q3⟩
          rw [q1 g (by omega), q1 h (by omega), q1 i hi]
        · unfold G5r; simp (disch := decide) only [mS_c, mS_k, mS_eq]; exact r.g5
        · unfold Ppr; simp (disch := decide) only [mS_c, mS_k, mS_eq]; exact r.pp
        · unfold Pmr; simp (disch := decide) only [mS_c, mS_k, mS_eq]; exact r.pm
