/-! ===== seen, leave, acts, set ===== -/
theorem lt3m (k : Nat) : (3 : Int32) * nI k = nI (3 * k) := by rw [show (3 : Int32) * nI k = nI 3 * nI k from rfl, nI_mul]
theorem c_add {μ : Mm} {K : MV → Mm → Prop} {k : Nat} {x y z : Int32} (hk : k < 6) (h : μ 9 0 = nI k) (hK : K (mI 1) (mS (mS (mS (mS μ 10 k x) 11 k y) 12 k z) 9 0 (nI k + 1))) : s_X7_add [mO 6 9, mI x, mI y, mI z] μ K := by
  refine g_X7_add ?_
  rw [h, if_pos (show nI k < 6 from nI_lt (b := 6) (by omega) (by omega))]
  refine c_put hk (by decide) ?_
  rw [mS_c (by decide), h]
  refine c_put hk (by decide) ?_
  rw [mS_c (by decide), mS_c (by decide), h]
  refine c_put hk (by decide) ⟨zb1, ?_⟩
  rw [mS_c (by decide), mS_c (by decide), mS_c (by decide), h]
  exact hK
theorem call_seen {μ : Mm} (r : Rl μ) (a b c : Int32) : s_X9_seen [mO 8 0, mI a, mI b, mI c] μ (fun v1 μ1 => s_X10_seen [mO 9 55, mI a, mI b, mI c] μ1 (fun v2 μ2 => Gd v1 v2 μ2)) := by
  refine g_X9_seen (c_comes ?_)
  rw [vI_mI, ite_b, r.v]
  cases hc : cmB (vM μ) a with
  | false =>
    refine g_X10_seen (d_comes ?_)
    rw [vI_mI, ite_b, hc]
    exact ⟨rfl, r⟩
  | true =>
    rw [cond_true]
    refine c_within ?_
    rw [vI_mI, ite_b, r.n3]
    cases hb : decide (0 ≤ b ∧ b ≤ nI (nA (vM μ))) with
    | false =>
      refine g_X10_seen (d_comes ?_)
      rw [vI_mI, ite_b, hc, cond_true]
      refine d_in ?_
      rw [vI_mI, ite_b, r.n55, hb]
      exact ⟨rfl, r⟩
    | true =>
      rw [cond_true]
      refine c_within ?_
      rw [vI_mI, ite_b]
      cases hd : decide (0 ≤ c ∧ c ≤ 30) with
      | false =>
        refine g_X10_seen (d_comes ?_)
        rw [vI_mI, ite_b, hc, cond_true]
        refine d_in ?_
        rw [vI_mI, ite_b, r.n55, hb, cond_true]
        refine d_in ?_
        rw [vI_mI, ite_b, hd]
        exact ⟨rfl, r⟩
      | true =>
        rw [cond_true]
        obtain ⟨k, hk, e9, e55⟩ := r.f6
        by_cases h6 : k = 6
        · subst h6
          refine g_X7_add ?_
          rw [e9, if_neg (by decide)]
          refine ⟨zb0, ?_⟩
          rw [vI_mI, if_pos rfl]
          refine g_X10_seen (d_comes ?_)
          rw [vI_mI, ite_b, hc, cond_true]
          refine d_in ?_
          rw [vI_mI, ite_b, r.n55, hb, cond_true]
          refine d_in ?_
          rw [vI_mI, ite_b, hd, cond_true, e55, if_pos (show nI 6 = 6 from rfl)]
          exact ⟨rfl, r⟩
        · refine c_add (k := k) (by omega) e9 ?_
          rw [vI_mI, if_neg i10]
          refine g_X10_seen (d_comes ?_)
          have ev : vM (mS (mS (mS (mS μ 10 k a) 11 k b) 12 k c) 9 0 (nI k + 1)) = vM μ := vM_congr (fun k _ => by simp (disch := decide) only [mS_c]) (by simp (disch := decide) only [mS_c]) (by simp (disch := decide) only [mS_c]) (by simp (disch := decide) only [mS_c]) (by simp (disch := decide) only [mS_c]) (by simp (disch := decide) only [mS_c]) (by simp (disch := decide) only [mS_c])
          rw [vI_mI, ite_b, ev, hc, cond_true]
          refine d_in ?_
          simp (disch := decide) only [mS_c, mS_k, mS_eq]
          rw [vI_mI, ite_b, r.n55, hb, cond_true]
          refine d_in ?_
          simp (disch := decide) only [mS_c, mS_k, mS_eq]
          rw [vI_mI, ite_b, hd, cond_true, e55, if_neg (show ¬ nI k = 6 from fun z => h6 ((nI_eq (b := 6) (by omega) (by omega)).mp z)), lt3m, show (1 : Int32) = nI 1 from rfl, show (2 : Int32) = nI 2 from rfl, nI_add, nI_add, nI_clamp (by omega), nI_clamp (by omega), nI_clamp (by omega)]
          refine ⟨vi_nI (by omega) (by decide), vi_nI (by omega) (by decide), vi_nI (by omega) (by decide), rfl, ?_⟩
          refine Rl_mk ?_ ?_ ?_ ?_ ?_ ?_ ?_ ?_ ?_ ?_ ?_ ?_ ?_ ?_ (r.pi.fr fun c h1 h2 h3 => by simp (disch := omega) only [mS_c])
          · unfold F0r; simp (disch := decide) only [mS_c, mS_k, mS_eq]; exact r.f0
          · unfold F1r; simp (disch := decide) only [mS_c, mS_k, mS_eq]; exact r.f1
          · unfold F2r; simp (disch := decide) only [mS_c, mS_k, mS_eq]; exact r.f2
          · unfold F3r; simp (disch := decide) only [mS_c, mS_k, mS_eq]; exact r.f3
          · unfold F4r; simp (disch := decide) only [mS_c, mS_k, mS_eq]; exact r.f4
          · unfold F5r; simp (disch := decide) only [mS_c, mS_k, mS_eq]; exact r.f5
          · unfold F6r; simp (disch := decide) only [mS_c, mS_k, mS_eq]; exact ⟨k + 1, by omega, nI_add k 1, nI_add k 1⟩
          · unfold G1r; simp (disch := decide) only [mS_c, mS_k, mS_eq]; exact r.g1
          · unfold G2r; simp (disch := decide) only [mS_c, mS_k, mS_eq]; exact r.g2
          · unfold G3r; simp (disch := decide) only [mS_c, mS_k, mS_eq]; exact r.g3
          · unfold G4r; simp (disch := decide) only [mS_c, mS_k, mS_eq]; exact r.g4
          · unfold G5r; intro i hi
            obtain ⟨q1, q2, q3⟩ := r.g5 i hi
            simp (disch := decide) only [mS_c, mS_k, mS_eq]
            by_cases e : i = k
            · subst e
              refine ⟨?_, ?_, ?_⟩
              · rw [mS_eq, mS_k (by omega), mS_k (by omega), mS_eq]
              · rw [mS_eq, mS_k (by omega), mS_eq]
              · rw [mS_eq, mS_eq]
            · refine ⟨?_, ?_, ?_⟩
              · rw [mS_k e, mS_k (by omega), mS_k (by omega), mS_k (by omega)]; simp (disch := decide) only [mS_c]; exact q1
              · rw [mS_k e, mS_k (by omega), mS_k (by omega), mS_k (by omega)]; simp (disch := decide) only [mS_c]; exact q2
              · rw [mS_k e, mS_k (by omega), mS_k (by omega), mS_k (by omega)]; simp (disch := decide) only [mS_c]; exact q3
          · unfold Ppr; simp (disch := decide) only [mS_c, mS_k, mS_eq]; exact r.pp
          · unfold Pmr; simp (disch := decide) only [mS_c, mS_k, mS_eq]; exact r.pm
def bitsI (x : Int32) : Int32 := sumN (fun k => (x >>> (nI k &&& 31)) &&& 1) 8
theorem d_bits {μ : Mm} {K : MV → Mm → Prop} {x : Int32} (h : K (mI (bitsI x)) μ) : s_X10_bits [mI x] μ K := by
  refine g_X10_bits ?_
  have lp : ∀ (d k : Nat), k + d = 8 → Tot e_X10_bits K 4 [mI x, mI (sumN (fun k => (x >>> (nI k &&& 31)) &&& 1) k), mI (nI k)] [] μ := by
    intro d
    induction d with
    | zero =>
      intro k hk
      have e : k = 8 := by omega
      subst e
      refine g_X10_bits_4 ?_
      rw [if_pos (by decide)]
      exact h
    | succ d ih =>
      intro k hk
      refine g_X10_bits_4 ?_
      rw [if_neg (show ¬ (8 : Int32) ≤ nI k from nI_ge (b := 8) (by omega) (by omega))]
      have := ih (k + 1) (by omega)
      rw [← nI_1] at this
      exact this
  exact lp 8 0 rfl
def bcE (l0 : Int32) : Int32 := ((((((((l0 - (((l0.toUInt32 >>> ((1 : Int32).toUInt32 &&& Int32.toUInt32 31)).toInt32) &&& 1431655765)) &&& 858993459) + ((((l0 - (((l0.toUInt32 >>> ((1 : Int32).toUInt32 &&& Int32.toUInt32 31)).toInt32) &&& 1431655765)).toUInt32 >>> ((2 : Int32).toUInt32 &&& Int32.toUInt32 31)).toInt32) &&& 858993459)) + (((((l0 - (((l0.toUInt32 >>> ((1 : Int32).toUInt32 &&& Int32.toUInt32 31)).toInt32) &&& 1431655765)) &&& 858993459) + ((((l0 - (((l0.toUInt32 >>> ((1 : Int32).toUInt32 &&& Int32.toUInt32 31)).toInt32) &&& 1431655765)).toUInt32 >>> ((2 : Int32).toUInt32 &&& Int32.toUInt32 31)).toInt32) &&& 858993459)).toUInt32 >>> ((4 : Int32).toUInt32 &&& Int32.toUInt32 31)).toInt32)) &&& 252645135) + (((((((l0 - (((l0.toUInt32 >>> ((1 : Int32).toUInt32 &&& Int32.toUInt32 31)).toInt32) &&& 1431655765)) &&& 858993459) + ((((l0 - (((l0.toUInt32 >>> ((1 : Int32).toUInt32 &&& Int32.toUInt32 31)).toInt32) &&& 1431655765)).toUInt32 >>> ((2 : Int32).toUInt32 &&& Int32.toUInt32 31)).toInt32) &&& 858993459)) + (((((l0 - (((l0.toUInt32 >>> ((1 : Int32).toUInt32 &&& Int32.toUInt32 31)).toInt32) &&& 1431655765)) &&& 858993459) + ((((l0 - (((l0.toUInt32 >>> ((1 : Int32).toUInt32 &&& Int32.toUInt32 31)).toInt32) &&& 1431655765)).toUInt32 >>> ((2 : Int32).toUInt32 &&& Int32.toUInt32 31)).toInt32) &&& 858993459)).toUInt32 >>> ((4 : Int32).toUInt32 &&& Int32.toUInt32 31)).toInt32)) &&& 252645135).toUInt32 >>> ((8 : Int32).toUInt32 &&& Int32.toUInt32 31)).toInt32)) + ((((((((l0 - (((l0.toUInt32 >>> ((1 : Int32).toUInt32 &&& Int32.toUInt32 31)).toInt32) &&& 1431655765)) &&& 858993459) + ((((l0 - (((l0.toUInt32 >>> ((1 : Int32).toUInt32 &&& Int32.toUInt32 31)).toInt32) &&& 1431655765)).toUInt32 >>> ((2 : Int32).toUInt32 &&& Int32.toUInt32 31)).toInt32) &&& 858993459)) + (((((l0 - (((l0.toUInt32 >>> ((1 : Int32).toUInt32 &&& Int32.toUInt32 31)).toInt32) &&& 1431655765)) &&& 858993459) + ((((l0 - (((l0.toUInt32 >>> ((1 : Int32).toUInt32 &&& Int32.toUInt32 31)).toInt32) &&& 1431655765)).toUInt32 >>> ((2 : Int32).toUInt32 &&& Int32.toUInt32 31)).toInt32) &&& 858993459)).toUInt32 >>> ((4 : Int32).toUInt32 &&& Int32.toUInt32 31)).toInt32)) &&& 252645135) + (((((((l0 - (((l0.toUInt32 >>> ((1 : Int32).toUInt32 &&& Int32.toUInt32 31)).toInt32) &&& 1431655765)) &&& 858993459) + ((((l0 - (((l0.toUInt32 >>> ((1 : Int32).toUInt32 &&& Int32.toUInt32 31)).toInt32) &&& 1431655765)).toUInt32 >>> ((2 : Int32).toUInt32 &&& Int32.toUInt32 31)).toInt32) &&& 858993459)) + (((((l0 - (((l0.toUInt32 >>> ((1 : Int32).toUInt32 &&& Int32.toUInt32 31)).toInt32) &&& 1431655765)) &&& 858993459) + ((((l0 - (((l0.toUInt32 >>> ((1 : Int32).toUInt32 &&& Int32.toUInt32 31)).toInt32) &&& 1431655765)).toUInt32 >>> ((2 : Int32).toUInt32 &&& Int32.toUInt32 31)).toInt32) &&& 858993459)).toUInt32 >>> ((4 : Int32).toUInt32 &&& Int32.toUInt32 31)).toInt32)) &&& 252645135).toUInt32 >>> ((8 : Int32).toUInt32 &&& Int32.toUInt32 31)).toInt32)).toUInt32 >>> ((16 : Int32).toUInt32 &&& Int32.toUInt32 31)).toInt32)) &&& 63)
theorem bc_ok : ∀ m, m < 256 → bcE (nI m) = bitsI (nI m) := by decide +kernel
theorem c_bitCount {μ : Mm} {K : MV → Mm → Prop} {m : Nat} (hm : m < 256) (h : K (mI (bitsI (nI m))) μ) : s_J6_bitCount [mI (nI m)] μ K := by
  refine g_J6_bitCount ?_
  show K (mI (bcE (nI m))) μ
  rw [bc_ok m hm]
  exact h
theorem and_bit : ∀ m, m < 256 → ∀ h, h < 8 → ∃ m', m' < 256 ∧ nI m &&& (((1 : Int32) <<< (nI h &&& 31)) ^^^ (-1 : Int32)) = nI m' := by
  have e : ∀ m, m < 256 → ∀ h, h < 8 → nI m &&& (((1 : Int32) <<< (nI h &&& 31)) ^^^ (-1 : Int32)) = nI (m - (m &&& 1 <<< h)) := by decide +kernel
  exact fun m hm h hh => ⟨m - (m &&& 1 <<< h), by omega, e m hm h hh⟩
theorem call_leave {μ : Mm} (r : Rl μ) (a : Int32) : s_X9_leave [mO 8 0, mI a] μ (fun v1 μ1 => s_X10_leave [mO 9 55, mI a] μ1 (fun v2 μ2 => Gd v1 v2 μ2)) := by
  refine g_X9_leave (c_comes ?_)
  rw [vI_mI, ite_b, r.v]
  cases hc : cmB (vM μ) a with
  | false =>
    refine g_X10_leave (d_comes ?_)
    rw [vI_mI, ite_b, hc]
    exact ⟨rfl, r⟩
  | true =>
    obtain ⟨g, hg, rfl⟩ := gst_in hc
    obtain ⟨m, hm, e3, e55⟩ := r.f1
    obtain ⟨m', hm', em⟩ := and_bit m hm g hg
    rw [cond_true, mS_eq, e3, em]
    refine c_bitCount hm' ?_
    refine g_X10_leave (d_comes ?_)
    have ev : vM (mS μ 3 5 (nI m')) = vM μ := vM_congr (fun k _ => by simp (disch := decide) only [mS_c]) (by simp (disch := decide) only [mS_c]) (by simp (disch := decide) only [mS_c]) (by simp (disch := decide) only [mS_c]) (by simp (disch := decide) only [mS_c]) (by simp (disch := decide) only [mS_c]) (by simp (disch := decide) only [mS_c])
    rw [vI_mI, ite_b, ev, hc, cond_true, mS_eq, mS_c (by decide), e55, em]
    refine d_bits ⟨rfl, ?_⟩
    refine Rl_mk ?_ ?_ ?_ ?_ ?_ ?_ ?_ ?_ ?_ ?_ ?_ ?_ ?_ ?_ (r.pi.fr fun c h1 h2 h3 => by simp (disch := omega) only [mS_c])
    · unfold F0r; simp (disch := decide) only [mS_c, mS_k, mS_eq]; exact r.f0
    · unfold F1r; simp (disch := decide) only [mS_c, mS_k, mS_eq]; exact ⟨m', hm', rfl, rfl⟩
    · unfold F2r; simp (disch := decide) only [mS_c, mS_k, mS_eq]; exact r.f2
    · unfold F3r; simp (disch := decide) only [mS_c, mS_k, mS_eq]; exact r.f3
    · unfold F4r; simp (disch := decide) only [mS_c, mS_k, mS_eq]; exact r.f4
    · unfold F5r; simp (disch := decide) only [mS_c, mS_k, mS_eq]; exact r.f5
    · unfold F6r; simp (disch := decide) only [mS_c, mS_k, mS_eq]; exact r.f6
    · unfold G1r; simp (disch := decide) only [mS_c, mS_k, mS_eq]; exact r.g1
    · unfold G2r; simp (disch := decide) only [mS_c, mS_k, mS_eq]; exact r.g2
    · unfold G3r; simp (disch := decide) only [mS_c, mS_k, mS_eq]; exact r.g3
    · unfold G4r; simp (disch := decide) only [mS_c, mS_k, mS_eq]; exact r.g4
    · unfold G5r; simp (disch := decide) only [mS_c, mS_k, mS_eq]; exact r.g5
    · unfold Ppr; simp (disch := decide) only [mS_c, mS_k, mS_eq]; exact r.pp
    · unfold Pmr; simp (disch := decide) only [mS_c, mS_k, mS_eq]; exact r.pm
