/-! ===== guest, play, set, acts ===== -/
theorem mW_mS {μ : Mm} {c c' i : Nat} {f : Nat → Int32} {x : Int32} (h : c ≠ c') : mS (mW μ c f) c' i x = mW (mS μ c' i x) c f := by
  funext a b
  unfold mS mW
  by_cases e : a = c
  · rw [if_neg (fun z => h (e.symm.trans z.1)), if_pos e, if_pos e]
  · rw [if_neg e, if_neg e]
def wt (x : Int32) : Int32 := if x < 97 then 64 - x else x - 97
theorem c_worthTold {μ : Mm} {K : MV → Mm → Prop} {x : Int32} (h : K (mI (wt x)) μ) : s_X3_worthTold [mI x] μ K := by
  refine g_X3_worthTold ?_
  unfold wt at h
  split
  · rename_i q; rw [if_pos q] at h; exact h
  · rename_i q; rw [if_neg q] at h; exact h
def Fw (p f : Nat → Int32) (g i : Nat) : Nat → Int32 := fun k => if 6 * g ≤ k ∧ k < 6 * g + i then wt (p (k - 6 * g)) else f k
theorem Fw_0 {p f : Nat → Int32} {g : Nat} : Fw p f g 0 = f := by
  funext k
  unfold Fw
  rw [if_neg (by omega)]
theorem Fw_at {p f : Nat → Int32} {g i : Nat} : Fw p f g (i + 1) (6 * g + i) = wt (p i) := by
  unfold Fw
  rw [if_pos (by omega), show 6 * g + i - 6 * g = i by omega]
theorem Fw_ne {p f : Nat → Int32} {g i k : Nat} (h : k ≠ 6 * g + i) : Fw p f g (i + 1) k = Fw p f g i k := by
  unfold Fw
  by_cases e : 6 * g ≤ k ∧ k < 6 * g + i
  · rw [if_pos e, if_pos (by omega)]
  · rw [if_neg e, if_neg (by omega)]
section GST
variable {μ : Mm} {K : MV → Mm → Prop} {n c g m m' : Nat} {p : Nat → Int32}
theorem c_guest (hg : g < 8) (hn : n ≤ 6) (hm' : m' < 256) (e0 : μ 3 0 = nI n) (ep : ∀ i, i < 48 → μ 2 i = p i) (e5 : μ 3 5 = nI m) (hor : nI m ||| ((1 : Int32) <<< (nI g &&& 31)) = nI m') (hK : K (mI (bitsI (nI m'))) (mS (mS (mW μ 5 (Fw p (μ 5) g n)) 3 5 (nI m')) 1 1 0)) : Tot e_X9_guest K 36 [mO 8 0, mI (nI g), mI 0] [] μ := by
  have lp : ∀ (d i : Nat), i + d = n → Tot e_X9_guest K 36 [mO 8 0, mI (nI g), mI (nI i)] [] (mW μ 5 (Fw p (μ 5) g i)) := by
    intro d
    induction d with
    | zero =>
      intro i hi
      have e : i = n := by omega
      subst e
      refine g_X9_guest_36 ?_
      rw [mW_c (by decide), e0, if_pos (nI_le (Nat.le_refl _) (by omega)), mS_c (by decide), mS_eq, e5, hor]
      exact c_bitCount hm' hK
    | succ d ih =>
      intro i hi
      refine g_X9_guest_36 ?_
      rw [mW_c (c' := 3) (by decide), e0, if_neg (nI_ge (by omega) (by omega))]
      refine g_X3_sign (c_at (by omega) (by decide) ?_)
      rw [mW_c (by decide), vI_mI, vI_mI, ep i (by omega)]
      refine c_worthTold (g_X8_putWorth ?_)
      rw [lit6', vI_mI]
      refine c_put (by omega) (by decide) ?_
      have := ih (i + 1) (by omega)
      rw [← nI_1] at this
      rw [mW_st Fw_at (fun k hk => Fw_ne hk)]
      exact this
  have := lp n 0 (by omega)
  rw [Fw_0, mW_id rfl] at this
  exact this
theorem d_guest (hg : g < 8) (hn : n ≤ 6) (e0 : μ 55 0 = nI n) (e1 : μ 55 1 = nI m) (hor : nI m ||| ((1 : Int32) <<< (nI g &&& 31)) = nI m') (hK : K (mI (bitsI (nI m'))) (mS (mS (mW μ 56 (Fw (μ 62) (μ 56) g n)) 55 1 (nI m')) 55 13 0)) : Tot e_X10_guest K 24 [mO 9 55, mI (nI g), mI 0] [] μ := by
  have lp : ∀ (d i : Nat), i + d = n → Tot e_X10_guest K 24 [mO 9 55, mI (nI g), mI (nI i)] [] (mW μ 56 (Fw (μ 62) (μ 56) g i)) := by
    intro d
    induction d with
    | zero =>
      intro i hi
      have e : i = n := by omega
      subst e
      refine g_X10_guest_24 ?_
      rw [mW_c (by decide), e0, if_pos (nI_le (Nat.le_refl _) (by omega)), mS_k (by decide), mS_eq, e1, hor]
      exact d_bits hK
    | succ d ih =>
      intro i hi
      refine g_X10_guest_24 ?_
      have h1 : vi (nI i) 48 := vi_nI (by omega) (by decide)
      have h2 : vi (nI (6 * g + i)) 48 := vi_nI (by omega) (by decide)
      rw [mW_c (c' := 55) (by decide), e0, if_neg (nI_ge (by omega) (by omega)), mW_c (c' := 62) (by decide), nI_clamp (by omega), lit6, nI_clamp (by omega)]
      have := ih (i + 1) (by omega)
      rw [← nI_1] at this
      refine ⟨h1, ?_⟩
      split
      · rename_i q
        refine ⟨h1, h2, ?_⟩
        rw [mW_st (f' := Fw (μ 62) (μ 56) g (i + 1)) (by rw [Fw_at]; unfold wt; rw [if_pos q]) (fun k hk => Fw_ne hk)]
        exact this
      · rename_i q
        refine ⟨h1, h2, ?_⟩
        rw [mW_st (f' := Fw (μ 62) (μ 56) g (i + 1)) (by rw [Fw_at]; unfold wt; rw [if_neg q]) (fun k hk => Fw_ne hk)]
        exact this
  have := lp n 0 (by omega)
  rw [Fw_0, mW_id rfl] at this
  exact this
end GST
theorem call_guest {μ : Mm} (r : Rl μ) (a : Int32) : s_X9_guest [mO 8 0, mI a] μ (fun v1 μ1 => s_X10_guest [mO 9 55, mI a] μ1 (fun v2 μ2 => Gd v1 v2 μ2)) := by
  obtain ⟨hp1, ⟨c, hc, hp2⟩, hp3⟩ := r.pp
  have h6 := r.n6
  refine g_X9_guest (c_within ?_)
  rw [vI_mI, ite_b, r.n3]
  cases hd : decide (0 ≤ a ∧ a ≤ 7) with
  | false =>
    refine g_X10_guest (d_in ?_)
    rw [vI_mI, ite_b, hd]
    exact ⟨rfl, r⟩
  | true =>
    obtain ⟨g, hg, rfl⟩ := nI_btw (n := 7) (by omega) (of_decide_eq_true hd).1 (of_decide_eq_true hd).2
    rw [cond_true]
    refine c_guestFault h6 hc (hp1.trans hp2) hp3 ?_
    rw [vI_mI]
    rcases gfl_or (p := μ 62) (n := nA (vM μ)) hc c 0 (by omega) with e | ⟨k, hk, e⟩
    · rw [e, if_pos rfl]
      obtain ⟨m, hm, e3, e55⟩ := r.f1
      obtain ⟨⟨m', hm', em⟩, -⟩ := or_bit m hm g (by omega)
      refine c_guest (by omega) h6 hm' r.n3 hp3 e3 em ?_
      refine g_X10_guest (d_in ?_)
      rw [vI_mI, ite_b, hd, cond_true]
      refine d_guestFault h6 hc (by simp (disch := decide) only [mS_c, mS_k, mS_eq, mW_c, mW_eq]; exact hp2) (by simp (disch := decide) only [mS_c, mS_k, mS_eq, mW_c, mW_eq]; exact r.n55) ?_
      rw [vI_mI, mS_c (c' := 62) (by decide), mS_c (c' := 62) (by decide), mW_c (c' := 62) (by decide), e, if_pos (by decide)]
      refine d_guest (n := nA (vM μ)) (m := m) (m' := m') (by omega) h6 (by simp (disch := decide) only [mS_c, mS_k, mS_eq, mW_c, mW_eq]; exact r.n55) (by simp (disch := decide) only [mS_c, mS_k, mS_eq, mW_c, mW_eq]; exact e55) em ⟨rfl, ?_⟩
      rw [mS_c (c' := 62) (by decide), mS_c (c' := 62) (by decide), mW_c (c' := 62) (by decide), mS_c (c' := 56) (by decide), mS_c (c' := 56) (by decide), mW_c (c' := 56) (by decide)]
      refine Rl_mk ?_ ?_ ?_ ?_ ?_ ?_ ?_ ?_ ?_ ?_ ?_ ?_ ?_ ?_ (r.pi.fr fun c h1 h2 h3 => by simp (disch := omega) only [mS_c, mW_c])
      · unfold F0r; simp (disch := decide) only [mS_c, mS_k, mS_eq, mW_c, mW_eq]; exact r.f0
      · unfold F1r; simp (disch := decide) only [mS_c, mS_k, mS_eq, mW_c, mW_eq]; exact ⟨m', hm', rfl, rfl⟩
      · unfold F2r; simp (disch := decide) only [mS_c, mS_k, mS_eq, mW_c, mW_eq]; exact r.f2
      · unfold F3r; simp (disch := decide) only [mS_c, mS_k, mS_eq, mW_c, mW_eq]; exact r.f3
      · unfold F4r; simp (disch := decide) only [mS_c, mS_k, mS_eq, mW_c, mW_eq]; exact r.f4
      · unfold F5r; simp (disch := decide) only [mS_c, mS_k, mS_eq, mW_c, mW_eq]; exact r.f5
      · unfold F6r; simp (disch := decide) only [mS_c, mS_k, mS_eq, mW_c, mW_eq]; exact r.f6
      · unfold G1r; simp (disch := decide) only [mS_c, mS_k, mS_eq, mW_c, mW_eq]
        intro i hi
        unfold Fw
        split
        · rfl
        · exact r.e1 hi
      · unfold G2r; simp (disch := decide) only [mS_c, mS_k, mS_eq, mW_c, mW_eq]; exact r.g2
      · unfold G3r; simp (disch := decide) only [mS_c, mS_k, mS_eq, mW_c, mW_eq]; exact r.g3
      · unfold G4r; simp (disch := decide) only [mS_c, mS_k, mS_eq, mW_c, mW_eq]; exact r.g4
      · unfold G5r; simp (disch := decide) only [mS_c, mS_k, mS_eq, mW_c, mW_eq]; exact r.g5
      · unfold Ppr; simp (disch := decide) only [mS_c, mS_k, mS_eq, mW_c, mW_eq]; exact ⟨rfl, ⟨0, by omega, rfl⟩, hp3⟩
      · unfold Pmr; simp (disch := decide) only [mS_c, mS_k, mS_eq, mW_c, mW_eq]; exact r.pm
    · rw [e, if_neg (neg6_nI hk)]
      refine g_X10_guest (d_in ?_)
      rw [vI_mI, ite_b, hd, cond_true]
      refine d_guestFault h6 hc hp2 r.n55 ?_
      rw [vI_mI, e, if_neg (nI_pos (by omega))]
      exact ⟨rfl, r⟩
def Fo (p f : Nat → Int32) (i : Nat) : Nat → Int32 := fun k => if k < i then p k - 48 else f k
theorem Fo_0 {p f : Nat → Int32} : Fo p f 0 = f := by
  funext k
  unfold Fo
  rw [if_neg (by omega)]
theorem Fo_at {p f : Nat → Int32} {i : Nat} : Fo p f (i + 1) i = p i - 48 := by
  unfold Fo
  rw [if_pos (by omega)]
theorem Fo_ne {p f : Nat → Int32} {i k : Nat} (h : k ≠ i) : Fo p f (i + 1) k = Fo p f i k := by
  unfold Fo
  by_cases e : k < i
  · rw [if_pos e, if_pos (by omega)]
  · rw [if_neg e, if_neg (by omega)]
theorem c_play {μ : Mm} {K : MV → Mm → Prop} {n : Nat} {p : Nat → Int32} (hn : n ≤ 6) (e0 : μ 3 0 = nI n) (ep : ∀ i, i < 48 → μ 2 i = p i) (hK : K (mI 1) (mS (mW μ 4 (Fo p (μ 4) n)) 1 1 0)) : Tot e_X9_play K 24 [mO 8 0, mI 0] [] μ := by
  have lp : ∀ (d i : Nat), i + d = n → Tot e_X9_play K 24 [mO 8 0, mI (nI i)] [] (mW μ 4 (Fo p (μ 4) i)) := by
    intro d
    induction d with
    | zero =>
      intro i hi
      have e : i = n := by omega
      subst e
      refine g_X9_play_24 ?_
      rw [mW_c (by decide), e0, if_pos (nI_le (Nat.le_refl _) (by omega))]
      exact hK
    | succ d ih =>
      intro i hi
      refine g_X9_play_24 ?_
      rw [mW_c (c' := 3) (by decide), e0, if_neg (nI_ge (by omega) (by omega))]
      refine g_X3_sign (c_at (by omega) (by decide) (g_X3_actTold ?_))
      rw [mW_c (by decide), vI_mI, vI_mI, vI_mI, ep i (by omega)]
      refine c_put (by omega) (by decide) ?_
      have := ih (i + 1) (by omega)
      rw [← nI_1] at this
      rw [mW_st Fo_at (fun k hk => Fo_ne hk)]
      exact this
  have := lp n 0 (by omega)
  rw [Fo_0, mW_id rfl] at this
  exact this
theorem d_play {μ : Mm} {K : MV → Mm → Prop} {n : Nat} (hn : n ≤ 6) (e0 : μ 55 0 = nI n) (hK : K (mI 1) (mS (mW μ 57 (Fo (μ 62) (μ 57) n)) 55 13 0)) : Tot e_X10_play K 12 [mO 9 55, mI 0] [] μ := by
  have lp : ∀ (d i : Nat), i + d = n → Tot e_X10_play K 12 [mO 9 55, mI (nI i)] [] (mW μ 57 (Fo (μ 62) (μ 57) i)) := by
    intro d
    induction d with
    | zero =>
      intro i hi
      have e : i = n := by omega
      subst e
      refine g_X10_play_12 ?_
      rw [mW_c (by decide), e0, if_pos (nI_le (Nat.le_refl _) (by omega))]
      exact hK
    | succ d ih =>
      intro i hi
      refine g_X10_play_12 ?_
      rw [mW_c (c' := 55) (by decide), e0, if_neg (nI_ge (by omega) (by omega)), mW_c (c' := 62) (by decide), nI_clamp (by omega)]
      refine ⟨vi_nI (by omega) (by decide), vi_nI (by omega) (by decide), ?_⟩
      have := ih (i + 1) (by omega)
      rw [← nI_1] at this
      rw [mW_st Fo_at (fun k hk => Fo_ne hk)]
      exact this
  have := lp n 0 (by omega)
  rw [Fo_0, mW_id rfl] at this
  exact this
theorem call_play {μ : Mm} (r : Rl μ) : s_X9_play [mO 8 0] μ (fun v1 μ1 => s_X10_play [mO 9 55] μ1 (fun v2 μ2 => Gd v1 v2 μ2)) := by
  obtain ⟨hp1, ⟨c, hc, hp2⟩, hp3⟩ := r.pp
  have h6 := r.n6
  refine g_X9_play ?_
  rw [r.n3]
  refine c_orderFault h6 hc (hp1.trans hp2) hp3 ?_
  rw [vI_mI]
  rcases ofl_or (p := μ 62) (n := nA (vM μ)) hc c 0 0 (by omega) with ⟨e, hnc, hall⟩ | ⟨k, hk, e⟩
  · rw [e, if_pos rfl]
    refine c_play h6 r.n3 hp3 ?_
    refine g_X10_play (d_orderFault h6 hc (by simp (disch := decide) only [mS_c, mS_k, mS_eq, mW_c, mW_eq]; exact hp2) (by simp (disch := decide) only [mS_c, mS_k, mS_eq, mW_c, mW_eq]; exact r.n55) ?_)
    rw [vI_mI, mS_c (c' := 62) (by decide), mW_c (c' := 62) (by decide), e, if_pos (by decide)]
    refine d_play (n := nA (vM μ)) h6 (by simp (disch := decide) only [mS_c, mS_k, mS_eq, mW_c, mW_eq]; exact r.n55) ⟨rfl, ?_⟩
    rw [mS_c (c' := 62) (by decide), mW_c (c' := 62) (by decide), mS_c (c' := 57) (by decide), mW_c (c' := 57) (by decide)]
    refine Rl_mk ?_ ?_ ?_ ?_ ?_ ?_ ?_ ?_ ?_ ?_ ?_ ?_ ?_ ?_ (r.pi.fr fun c h1 h2 h3 => by simp (disch := omega) only [mS_c, mW_c])
    · unfold F0r; simp (disch := decide) only [mS_c, mS_k, mS_eq, mW_c, mW_eq]; exact r.f0
    · unfold F1r; simp (disch := decide) only [mS_c, mS_k, mS_eq, mW_c, mW_eq]; exact r.f1
    · unfold F2r; simp (disch := decide) only [mS_c, mS_k, mS_eq, mW_c, mW_eq]; exact r.f2
    · unfold F3r; simp (disch := decide) only [mS_c, mS_k, mS_eq, mW_c, mW_eq]; exact r.f3
    · unfold F4r; simp (disch := decide) only [mS_c, mS_k, mS_eq, mW_c, mW_eq]; exact r.f4
    · unfold F5r; simp (disch := decide) only [mS_c, mS_k, mS_eq, mW_c, mW_eq]; exact r.f5
    · unfold F6r; simp (disch := decide) only [mS_c, mS_k, mS_eq, mW_c, mW_eq]; exact r.f6
    · unfold G1r; simp (disch := decide) only [mS_c, mS_k, mS_eq, mW_c, mW_eq]; exact r.g1
    · unfold G2r; simp (disch := decide) only [mS_c, mS_k, mS_eq, mW_c, mW_eq]
      intro j hj
      unfold Fo
      by_cases q : j < nA (vM μ)
      · rw [if_pos q, if_pos q]
        obtain ⟨a, ha, ea⟩ := act_in r.n1 r.n6 (hall j (by omega) (by omega))
        exact ⟨a, by omega, ea, ea⟩
      · rw [if_neg q, if_neg q]
        exact r.g2 j hj
    · unfold G3r; simp (disch := decide) only [mS_c, mS_k, mS_eq, mW_c, mW_eq]; exact r.g3
    · unfold G4r; simp (disch := decide) only [mS_c, mS_k, mS_eq, mW_c, mW_eq]; exact r.g4
    · unfold G5r; simp (disch := decide) only [mS_c, mS_k, mS_eq, mW_c, mW_eq]; exact r.g5
    · unfold Ppr; simp (disch := decide) only [mS_c, mS_k, mS_eq, mW_c, mW_eq]; exact ⟨rfl, ⟨0, by omega, rfl⟩, hp3⟩
    · unfold Pmr; simp (disch := decide) only [mS_c, mS_k, mS_eq, mW_c, mW_eq]; exact r.pm
  · rw [e, if_neg (neg6_nI hk)]
    refine g_X10_play (d_orderFault h6 hc hp2 r.n55 ?_)
    rw [vI_mI, e, if_neg (nI_pos (by omega))]
    exact ⟨rfl, r⟩
theorem call_set {μ : Mm} (r : Rl μ) (a b : Int32) : s_X9_set [mO 8 0, mI a, mI b] μ (fun v1 μ1 => s_X10_set [mO 9 55, mI a, mI b] μ1 (fun v2 μ2 => Gd v1 v2 μ2)) := by
  refine g_X9_set (c_within ?_)
  rw [vI_mI, ite_b]
  cases hd : decide (0 ≤ a ∧ a ≤ 3) with
  | false =>
    refine g_X10_set (d_in ?_)
    rw [vI_mI, ite_b, hd]
    exact ⟨rfl, r⟩
  | true =>
    obtain ⟨t, ht, rfl⟩ := nI_btw (n := 3) (by omega) (of_decide_eq_true hd).1 (of_decide_eq_true hd).2
    rw [cond_true]
    have n01 : ¬ nI 0 = 1 := by decide
    have n02 : ¬ nI 0 = 2 := by decide
    have n03 : ¬ nI 0 = 3 := by decide
    have n10 : ¬ nI 1 = 0 := by decide
    have n12 : ¬ nI 1 = 2 := by decide
    have n13 : ¬ nI 1 = 3 := by decide
    have n20 : ¬ nI 2 = 0 := by decide
    have n21 : ¬ nI 2 = 1 := by decide
    have n23 : ¬ nI 2 = 3 := by decide
    have n30 : ¬ nI 3 = 0 := by decide
    have n31 : ¬ nI 3 = 1 := by decide
    have n32 : ¬ nI 3 = 2 := by decide
    have p0 : nI 0 = 0 := rfl
    have p1 : nI 1 = 1 := rfl
    have p2 : nI 2 = 2 := rfl
    have p3 : nI 3 = 3 := rfl
    have : t = 0 ∨ t = 1 ∨ t = 2 ∨ t = 3 := by omega
    rcases this with rfl | rfl | rfl | rfl
    · refine g_X9_settingLimit ?_
      simp only [if_neg n01, if_neg n02, if_neg n03, if_pos p0]
      refine c_within ?_
      rw [vI_mI, vI_mI, ite_b]
      cases hb : decide (0 ≤ b ∧ b ≤ 30) with
      | false =>
        refine g_X10_set (d_in ?_)
        rw [vI_mI, ite_b, hd, cond_true]
        simp only [if_neg n01, if_neg n02, if_neg n03, if_pos p0]
        refine d_in ?_
        rw [vI_mI, ite_b, hb]
        exact ⟨rfl, r⟩
      | true =>
        rw [cond_true]
        obtain ⟨k, hk, rfl⟩ := nI_btw (n := 30) (by omega) (of_decide_eq_true hb).1 (of_decide_eq_true hb).2
        refine g_X8_setting ?_
        simp only [if_neg n01, if_neg n02, if_neg n03, if_pos p0]
        refine g_X8_putSetting ?_
        simp only [if_neg n01, if_neg n02, if_neg n03, if_pos p0]
        refine g_X10_set (d_in ?_)
        rw [vI_mI, ite_b, hd, cond_true]
        simp only [if_neg n01, if_neg n02, if_neg n03, if_pos p0]
        refine d_in ?_
        rw [vI_mI, ite_b, hb, cond_true]
        simp (disch := decide) only [mS_c, mS_k, mS_eq]
        refine ⟨?_, ?_⟩
        · rw [vI_mI, r.s2]
        · skip
          refine Rl_mk ?_ ?_ ?_ ?_ ?_ ?_ ?_ ?_ ?_ ?_ ?_ ?_ ?_ ?_ (r.pi.fr fun c h1 h2 h3 => by simp (disch := omega) only [mS_c])
          · unfold F0r; simp (disch := decide) only [mS_c, mS_k, mS_eq]; exact r.f0
          · unfold F1r; simp (disch := decide) only [mS_c, mS_k, mS_eq]; exact r.f1
          · unfold F2r; simp (disch := decide) only [mS_c, mS_k, mS_eq]; exact ⟨k, by omega, rfl, rfl⟩
          · unfold F3r; simp (disch := decide) only [mS_c, mS_k, mS_eq]; exact r.f3
          · unfold F4r; simp (disch := decide) only [mS_c, mS_k, mS_eq]; exact r.f4
          · unfold F5r; simp (disch := decide) only [mS_c, mS_k, mS_eq]; exact r.f5
          · unfold F6r; simp (disch := decide) only [mS_c, mS_k, mS_eq]; exact r.f6
          · unfold G1r; simp (disch := decide) only [mS_c, mS_k, mS_eq]; exact r.g1
          · unfold G2r; simp (disch := decide) only [mS_c, mS_k, mS_eq]; exact r.g2
          · unfold G3r; simp (disch := decide) only [mS_c, mS_k, mS_eq]; exact r.g3
          · unfold G4r; simp (disch := decide) only [mS_c, mS_k, mS_eq]; exact r.g4
          · unfold G5r; simp (disch := decide) only [mS_c, mS_k, mS_eq]; exact r.g5
          · unfold Ppr; simp (disch := decide) only [mS_c, mS_k, mS_eq]; exact r.pp
          · unfold Pmr; simp (disch := decide) only [mS_c, mS_k, mS_eq]; exact r.pm
    · refine g_X9_settingLimit ?_
      simp only [if_neg n10, if_neg n12, if_neg n13, if_pos p1]
      refine c_within ?_
      rw [vI_mI, vI_mI, ite_b]
      cases hb : decide (0 ≤ b ∧ b ≤ 9) with
      | false =>
        refine g_X10_set (d_in ?_)
        rw [vI_mI, ite_b, hd, cond_true]
        simp only [if_neg n10, if_neg n12, if_neg n13, if_pos p1]
        refine d_in ?_
        rw [vI_mI, ite_b, hb]
        exact ⟨rfl, r⟩
      | true =>
        rw [cond_true]
        obtain ⟨k, hk, rfl⟩ := nI_btw (n := 9) (by omega) (of_decide_eq_true hb).1 (of_decide_eq_true hb).2
        refine g_X8_setting ?_
        simp only [if_neg n10, if_neg n12, if_neg n13, if_pos p1]
        refine g_X8_putSetting ?_
        simp only [if_neg n10, if_neg n12, if_neg n13, if_pos p1]
        refine g_X10_set (d_in ?_)
        rw [vI_mI, ite_b, hd, cond_true]
        simp only [if_neg n10, if_neg n12, if_neg n13, if_pos p1]
        refine d_in ?_
        rw [vI_mI, ite_b, hb, cond_true]
        simp (disch := decide) only [mS_c, mS_k, mS_eq]
        refine ⟨?_, ?_⟩
        · rw [vI_mI, r.s3]
        · skip
          refine Rl_mk ?_ ?_ ?_ ?_ ?_ ?_ ?_ ?_ ?_ ?_ ?_ ?_ ?_ ?_ (r.pi.fr fun c h1 h2 h3 => by simp (disch := omega) only [mS_c])
          · unfold F0r; simp (disch := decide) only [mS_c, mS_k, mS_eq]; exact r.f0
          · unfold F1r; simp (disch := decide) only [mS_c, mS_k, mS_eq]; exact r.f1
          · unfold F2r; simp (disch := decide) only [mS_c, mS_k, mS_eq]; exact r.f2
          · unfold F3r; simp (disch := decide) only [mS_c, mS_k, mS_eq]; exact ⟨k, by omega, rfl, rfl⟩
          · unfold F4r; simp (disch := decide) only [mS_c, mS_k, mS_eq]; exact r.f4
          · unfold F5r; simp (disch := decide) only [mS_c, mS_k, mS_eq]; exact r.f5
          · unfold F6r; simp (disch := decide) only [mS_c, mS_k, mS_eq]; exact r.f6
          · unfold G1r; simp (disch := decide) only [mS_c, mS_k, mS_eq]; exact r.g1
          · unfold G2r; simp (disch := decide) only [mS_c, mS_k, mS_eq]; exact r.g2
          · unfold G3r; simp (disch := decide) only [mS_c, mS_k, mS_eq]; exact r.g3
          · unfold G4r; simp (disch := decide) only [mS_c, mS_k, mS_eq]; exact r.g4
          · unfold G5r; simp (disch := decide) only [mS_c, mS_k, mS_eq]; exact r.g5
          · unfold Ppr; simp (disch := decide) only [mS_c, mS_k, mS_eq]; exact r.pp
          · unfold Pmr; simp (disch := decide) only [mS_c, mS_k, mS_eq]; exact r.pm
    · refine g_X9_settingLimit ?_
      simp only [if_neg n20, if_neg n21, if_neg n23, if_pos p2]
      refine c_within ?_
      rw [vI_mI, vI_mI, ite_b]
      cases hb : decide (0 ≤ b ∧ b ≤ 1) with
      | false =>
        refine g_X10_set (d_in ?_)
        rw [vI_mI, ite_b, hd, cond_true]
        simp only [if_neg n20, if_neg n21, if_neg n23, if_pos p2]
        refine d_in ?_
        rw [vI_mI, ite_b, hb]
        exact ⟨rfl, r⟩
      | true =>
        rw [cond_true]
        obtain ⟨k, hk, rfl⟩ := nI_btw (n := 1) (by omega) (of_decide_eq_true hb).1 (of_decide_eq_true hb).2
        refine g_X8_setting ?_
        simp only [if_neg n20, if_neg n21, if_neg n23, if_pos p2]
        refine g_X8_putSetting ?_
        simp only [if_neg n20, if_neg n21, if_neg n23, if_pos p2]
        refine g_X10_set (d_in ?_)
        rw [vI_mI, ite_b, hd, cond_true]
        simp only [if_neg n20, if_neg n21, if_neg n23, if_pos p2]
        refine d_in ?_
        rw [vI_mI, ite_b, hb, cond_true]
        simp (disch := decide) only [mS_c, mS_k, mS_eq]
        refine ⟨?_, ?_⟩
        · rw [vI_mI, r.s4]
        · skip
          refine Rl_mk ?_ ?_ ?_ ?_ ?_ ?_ ?_ ?_ ?_ ?_ ?_ ?_ ?_ ?_ (r.pi.fr fun c h1 h2 h3 => by simp (disch := omega) only [mS_c])
          · unfold F0r; simp (disch := decide) only [mS_c, mS_k, mS_eq]; exact r.f0
          · unfold F1r; simp (disch := decide) only [mS_c, mS_k, mS_eq]; exact r.f1
          · unfold F2r; simp (disch := decide) only [mS_c, mS_k, mS_eq]; exact r.f2
          · unfold F3r; simp (disch := decide) only [mS_c, mS_k, mS_eq]; exact r.f3
          · unfold F4r; simp (disch := decide) only [mS_c, mS_k, mS_eq]; exact ⟨k, by omega, rfl, rfl⟩
          · unfold F5r; simp (disch := decide) only [mS_c, mS_k, mS_eq]; exact r.f5
          · unfold F6r; simp (disch := decide) only [mS_c, mS_k, mS_eq]; exact r.f6
          · unfold G1r; simp (disch := decide) only [mS_c, mS_k, mS_eq]; exact r.g1
          · unfold G2r; simp (disch := decide) only [mS_c, mS_k, mS_eq]; exact r.g2
          · unfold G3r; simp (disch := decide) only [mS_c, mS_k, mS_eq]; exact r.g3
          · unfold G4r; simp (disch := decide) only [mS_c, mS_k, mS_eq]; exact r.g4
          · unfold G5r; simp (disch := decide) only [mS_c, mS_k, mS_eq]; exact r.g5
          · unfold Ppr; simp (disch := decide) only [mS_c, mS_k, mS_eq]; exact r.pp
          · unfold Pmr; simp (disch := decide) only [mS_c, mS_k, mS_eq]; exact r.pm
    · refine g_X9_settingLimit ?_
      simp only [if_neg n30, if_neg n31, if_neg n32, if_pos p3]
      refine c_within ?_
      rw [vI_mI, vI_mI, ite_b]
      cases hb : decide (0 ≤ b ∧ b ≤ 30) with
      | false =>
        refine g_X10_set (d_in ?_)
        rw [vI_mI, ite_b, hd, cond_true]
        simp only [if_neg n30, if_neg n31, if_neg n32, if_pos p3]
        refine d_in ?_
        rw [vI_mI, ite_b, hb]
        exact ⟨rfl, r⟩
      | true =>
        rw [cond_true]
        obtain ⟨k, hk, rfl⟩ := nI_btw (n := 30) (by omega) (of_decide_eq_true hb).1 (of_decide_eq_true hb).2
        refine g_X8_setting ?_
        simp only [if_neg n30, if_neg n31, if_neg n32, if_pos p3]
        refine g_X8_putSetting ?_
        simp only [if_neg n30, if_neg n31, if_neg n32, if_pos p3]
        refine g_X10_set (d_in ?_)
        rw [vI_mI, ite_b, hd, cond_true]
        simp only [if_neg n30, if_neg n31, if_neg n32, if_pos p3]
        refine d_in ?_
        rw [vI_mI, ite_b, hb, cond_true]
        simp (disch := decide) only [mS_c, mS_k, mS_eq]
        refine ⟨?_, ?_⟩
        · rw [vI_mI, r.s5]
        · skip
          refine Rl_mk ?_ ?_ ?_ ?_ ?_ ?_ ?_ ?_ ?_ ?_ ?_ ?_ ?_ ?_ (r.pi.fr fun c h1 h2 h3 => by simp (disch := omega) only [mS_c])
          · unfold F0r; simp (disch := decide) only [mS_c, mS_k, mS_eq]; exact r.f0
          · unfold F1r; simp (disch := decide) only [mS_c, mS_k, mS_eq]; exact r.f1
          · unfold F2r; simp (disch := decide) only [mS_c, mS_k, mS_eq]; exact r.f2
          · unfold F3r; simp (disch := decide) only [mS_c, mS_k, mS_eq]; exact r.f3
          · unfold F4r; simp (disch := decide) only [mS_c, mS_k, mS_eq]; exact r.f4
          · unfold F5r; simp (disch := decide) only [mS_c, mS_k, mS_eq]; exact ⟨k, by omega, rfl, rfl⟩
          · unfold F6r; simp (disch := decide) only [mS_c, mS_k, mS_eq]; exact r.f6
          · unfold G1r; simp (disch := decide) only [mS_c, mS_k, mS_eq]; exact r.g1
          · unfold G2r; simp (disch := decide) only [mS_c, mS_k, mS_eq]; exact r.g2
          · unfold G3r; simp (disch := decide) only [mS_c, mS_k, mS_eq]; exact r.g3
          · unfold G4r; simp (disch := decide) only [mS_c, mS_k, mS_eq]; exact r.g4
          · unfold G5r; simp (disch := decide) only [mS_c, mS_k, mS_eq]; exact r.g5
          · unfold Ppr; simp (disch := decide) only [mS_c, mS_k, mS_eq]; exact r.pp
          · unfold Pmr; simp (disch := decide) only [mS_c, mS_k, mS_eq]; exact r.pm
