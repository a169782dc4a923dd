/-! ===== calls that change nothing, easy ones ===== -/
theorem Rl.e1 {μ : Mm} (r : Rl μ) {i : Nat} (h : i < 48) : μ 5 i = μ 56 i := by
  have := cell_eq r 1 i
  exact ((tr_at (f := μ 5) h).symm.trans this).trans (tr_at (f := μ 56) h)
theorem Rl.e2 {μ : Mm} (r : Rl μ) {i : Nat} (h : i < 6) : μ 4 i = μ 57 i := by
  have := cell_eq r 2 i
  exact ((tr_at (f := μ 4) h).symm.trans this).trans (tr_at (f := μ 57) h)
theorem Rl.e3 {μ : Mm} (r : Rl μ) {i : Nat} (h : i < 6) : μ 6 i = μ 59 i := by
  have := cell_eq r 3 i
  exact ((tr_at (f := μ 6) h).symm.trans this).trans (tr_at (f := μ 59) h)
theorem Rl.e4 {μ : Mm} (r : Rl μ) {i : Nat} (h : i < 8) : μ 8 i = μ 60 i := by
  have := cell_eq r 4 i
  exact ((tr_at (f := μ 8) h).symm.trans this).trans (tr_at (f := μ 60) h)
theorem Rl.e5 {μ : Mm} (r : Rl μ) {i : Nat} (h : i < 6) : μ 10 i = μ 61 (3 * i) := by
  have := cell_eq r 5 i
  exact ((tr_at (f := μ 10) h).symm.trans this).trans (tr_at (f := fun i => μ 61 (3 * i)) h)
theorem Rl.e6 {μ : Mm} (r : Rl μ) {i : Nat} (h : i < 6) : μ 11 i = μ 61 (3 * i + 1) := by
  have := cell_eq r 6 i
  exact ((tr_at (f := μ 11) h).symm.trans this).trans (tr_at (f := fun i => μ 61 (3 * i + 1)) h)
theorem Rl.e7 {μ : Mm} (r : Rl μ) {i : Nat} (h : i < 6) : μ 12 i = μ 61 (3 * i + 2) := by
  have := cell_eq r 7 i
  exact ((tr_at (f := μ 12) h).symm.trans this).trans (tr_at (f := fun i => μ 61 (3 * i + 2)) h)
theorem Rl.s0 {μ : Mm} (r : Rl μ) : μ 3 0 = μ 55 0 := cell_eq r 0 0
theorem Rl.s1 {μ : Mm} (r : Rl μ) : μ 3 5 = μ 55 1 := cell_eq r 0 1
theorem Rl.s2 {μ : Mm} (r : Rl μ) : μ 3 1 = μ 55 2 := cell_eq r 0 2
theorem Rl.s3 {μ : Mm} (r : Rl μ) : μ 3 2 = μ 55 3 := cell_eq r 0 3
theorem Rl.s4 {μ : Mm} (r : Rl μ) : μ 3 3 = μ 55 4 := cell_eq r 0 4
theorem Rl.s5 {μ : Mm} (r : Rl μ) : μ 3 4 = μ 55 5 := cell_eq r 0 5
theorem Rl.s6 {μ : Mm} (r : Rl μ) : μ 9 0 = μ 55 11 := cell_eq r 0 6
theorem Rl.n1 {μ : Mm} (r : Rl μ) : 1 ≤ nA (vM μ) := r.wb.1.1
theorem Rl.n6 {μ : Mm} (r : Rl μ) : nA (vM μ) ≤ 6 := r.wb.1.2.1
theorem lit6 (g a : Nat) : (6 : Int32) * nI g + nI a = nI (6 * g + a) := by rw [show (6 : Int32) * nI g = nI 6 * nI g from rfl, nI_mul, nI_add]
theorem lit6' (g a : Nat) : nI g * (6 : Int32) + nI a = nI (6 * g + a) := by rw [show nI g * (6 : Int32) = nI g * nI 6 from rfl, nI_mul, nI_add, Nat.mul_comm]
theorem call_worth {μ : Mm} (r : Rl μ) (a b : Int32) : s_X9_worth [mO 8 0, mI a, mI b] μ (fun v1 μ1 => s_X10_worth [mO 9 55, mI a, mI b] μ1 (fun v2 μ2 => Gd v1 v2 μ2)) := by
  refine g_X9_worth (c_comes ?_)
  rw [vI_mI, ite_b, r.v]
  cases hc : cmB (vM μ) a with
  | false =>
    refine g_X10_worth (d_comes ?_)
    rw [vI_mI, ite_b, hc]
    exact ⟨rfl, r⟩
  | true =>
    obtain ⟨g, hg, rfl⟩ := gst_in hc
    refine c_hasAct ?_
    rw [vI_mI, ite_b, r.n3]
    cases hb : decide (0 ≤ b ∧ b ≤ nI (nA (vM μ)) - 1) with
    | false =>
      refine g_X10_worth (d_comes ?_)
      rw [vI_mI, ite_b, hc]
      refine d_isAct ?_
      rw [vI_mI, ite_b, r.n55, hb]
      exact ⟨rfl, r⟩
    | true =>
      obtain ⟨k, hk, rfl⟩ := act_in r.n1 r.n6 hb
      have h6 := r.n6
      refine g_X8_worthTo ?_
      rw [lit6']
      refine c_at (by omega) (by decide) ?_
      refine g_X10_worth (d_comes ?_)
      rw [vI_mI, ite_b, hc]
      refine d_isAct ?_
      rw [vI_mI, ite_b, r.n55, hb, lit6, nI_clamp (by omega)]
      refine ⟨vi_nI (by omega) (by decide), ?_, r⟩
      rw [vI_mI, vI_mI, r.e1 (by omega)]
      congr 1
      grind
/-- how many of the first guests stay through an act -/
def stN (v : Vw) (k : Nat) : Nat → Int32
  | 0 => 0
  | g + 1 => bif cmB v (nI g) then (if nI (LV v g) ≤ nI k then stN v k g else stN v k g + 1) else stN v k g
theorem call_stayed {μ : Mm} (r : Rl μ) (a : Int32) : s_X9_stayed [mO 8 0, mI a] μ (fun v1 μ1 => s_X10_stayed [mO 9 55, mI a] μ1 (fun v2 μ2 => Gd v1 v2 μ2)) := by
  refine g_X9_stayed (c_hasAct ?_)
  rw [vI_mI, ite_b, r.n3]
  cases hb : decide (0 ≤ a ∧ a ≤ nI (nA (vM μ)) - 1) with
  | false =>
    refine g_X10_stayed (d_isAct ?_)
    rw [vI_mI, ite_b, r.n55, hb]
    exact ⟨rfl, r⟩
  | true =>
    obtain ⟨k, hk, rfl⟩ := act_in r.n1 r.n6 hb
    have h6 := r.n6
    have hL : ∀ g, LV (vM μ) g ≤ 6 := fun g => Nat.le_trans LV_le r.n6
    have key : ∃ f : Nat → Int32, f 0 = 0 ∧ ∀ g, g < 8 → f (g + 1) = (bif cmB (vM μ) (nI g) then (if nI (LV (vM μ) g) ≤ nI k then f g else f g + 1) else f g) := ⟨stN (vM μ) k, rfl, fun _ _ => rfl⟩
    obtain ⟨f, f0, fs⟩ := key
    have lm : ∀ (d g : Nat) (μ' : Mm), g + d = 8 → AgM μ μ' → Tot e_X10_stayed (fun v2 μ2 => Gd (mI (f 8)) v2 μ2) 14 [mO 9 55, mI (nI k), mI (f g), mI (nI g)] [] μ' := by
      intro d
      induction d with
      | zero =>
        intro g μ' hg ha
        have e : g = 8 := by omega
        subst e
        refine g_X10_stayed_14 ?_
        rw [if_pos (by decide)]
        exact ⟨rfl, ha.Rl r⟩
      | succ d ih =>
        intro g μ' hg ha
        have hcm : decide ((μ 55 1 >>> (nI g &&& 31)) &&& 1 = 1) = cmB (vM μ) (nI g) := (cmB_8 (v := vM μ) (by omega)).symm
        have hs := fs g (by omega)
        refine g_X10_stayed_14 ?_
        rw [if_neg (show ¬ (8 : Int32) ≤ nI g from nI_ge (b := 8) (by omega) (by omega))]
        refine d_has ?_
        rw [vI_mI, ite_b, ha 55 1 rfl, hcm]
        cases hc : cmB (vM μ) (nI g) with
        | false =>
          rw [hc, cond_false] at hs
          have := ih (g + 1) μ' (by omega) ha
          rw [← nI_1, hs] at this
          rw [cond_false, Int32.add_zero]
          exact this
        | true =>
          rw [hc, cond_true] at hs
          rw [cond_true]
          refine d_leavesAt (by rw [ha.vM]; exact r.wb) (by rw [ha.vM]; exact r.w9) (by omega) fun μ2 ha2 _ => ?_
          have := ih (g + 1) μ2 (by omega) (ha.tr ha2)
          rw [← nI_1, hs] at this
          rw [vI_mI, ha.vM]
          split
          · rename_i q
            rw [if_pos q] at this
            rw [Int32.add_zero]
            exact this
          · rename_i q
            rw [if_neg q] at this
            exact this
    have lx : ∀ (d g : Nat), g + d = 8 → Tot e_X9_stayed (fun v1 μ1 => s_X10_stayed [mO 9 55, mI (nI k)] μ1 (fun v2 μ2 => Gd v1 v2 μ2)) 17 [mO 8 0, mI (nI k), mI (f g), mI (nI g)] [] μ := by
      intro d
      induction d with
      | zero =>
        intro g hg
        have e : g = 8 := by omega
        subst e
        refine g_X9_stayed_17 ?_
        rw [if_pos (by decide)]
        refine g_X10_stayed (d_isAct ?_)
        rw [vI_mI, ite_b, r.n55, hb]
        have := lm 8 0 μ rfl (AgM.rf μ)
        rw [f0] at this
        exact this
      | succ d ih =>
        intro g hg
        have hs := fs g (by omega)
        refine g_X9_stayed_17 ?_
        rw [if_neg (show ¬ (8 : Int32) ≤ nI g from nI_ge (b := 8) (by omega) (by omega))]
        refine c_comes ?_
        rw [vI_mI, ite_b, r.v]
        cases hc : cmB (vM μ) (nI g) with
        | false =>
          rw [hc, cond_false] at hs
          have := ih (g + 1) (by omega)
          rw [← nI_1, hs] at this
          exact this
        | true =>
          rw [hc, cond_true] at hs
          rw [cond_true]
          refine c_behind r.wbX (by omega) ?_
          have := ih (g + 1) (by omega)
          rw [← nI_1, hs] at this
          rw [vI_mI, r.v]
          split
          · rename_i q
            rw [if_pos q] at this
            exact this
          · rename_i q
            rw [if_neg q] at this
            exact this
    have := lx 8 0 rfl
    rw [f0] at this
    exact this
theorem told_in {n o : Nat} {a : Int32} (hn : 1 ≤ n) (h6 : n ≤ 6) (ho : o ≤ 20) (h1 : 1 ≤ o) (hc : nI o ≤ a ∧ a ≤ nI (o - 1) + nI n) : ∃ k, k < n ∧ a = nI (o + k) := by
  obtain ⟨h2, h3⟩ := hc
  rw [nI_add] at h3
  have hp : 0 ≤ a := Int32.le_trans (nI_pos' (n := o) (by omega)) h2
  obtain ⟨t, ht, rfl⟩ := nI_btw (by omega) hp h3
  have h4 : o ≤ t := (nI_leI (by omega) (by omega)).mp h2
  exact ⟨t - o, by omega, by congr 1; omega⟩
theorem told_5 {o : Nat} {a : Int32} (ho : o ≤ 20) (hc : nI o ≤ a ∧ a ≤ nI (o + 5)) : ∃ k, k ≤ 5 ∧ a = nI (o + k) := by
  obtain ⟨h2, h3⟩ := hc
  have hp : 0 ≤ a := Int32.le_trans (nI_pos' (n := o) (by omega)) h2
  obtain ⟨t, ht, rfl⟩ := nI_btw (by omega) hp h3
  have h4 : o ≤ t := (nI_leI (by omega) (by omega)).mp h2
  exact ⟨t - o, by omega, by congr 1; omega⟩
theorem nI_sub0 (o k : Nat) : nI (o + k) - nI o = nI k := by
  rw [nI_sub (by omega)]
  congr 1
  omega
theorem isA {n k : Nat} (hn : 1 ≤ n) (h6 : n ≤ 6) (hk : k ≤ 5) : decide (0 ≤ nI k ∧ nI k ≤ nI n - 1) = decide (k < n) := by
  rw [show (1 : Int32) = nI 1 from rfl, nI_sub hn]
  apply decide_eq_decide.mpr
  rw [nI_leI (by omega) (by omega)]
  have : (0 : Int32) ≤ nI k := nI_pos' (by omega)
  constructor
  · intro h; omega
  · intro h; exact ⟨this, by omega⟩
theorem call_told {μ : Mm} (r : Rl μ) (a : Int32) : s_X9_told [mO 8 0, mI a] μ (fun v1 μ1 => s_X10_told [mO 9 55, mI a] μ1 (fun v2 μ2 => Gd v1 v2 μ2)) := by
  have h1 := r.n1
  have h6 := r.n6
  refine g_X9_told (c_within ?_)
  rw [vI_mI, ite_b, r.n3]
  by_cases p10 : (10 : Int32) ≤ a ∧ a ≤ 15
  · obtain ⟨k, hk, rfl⟩ := told_5 (o := 10) (by omega) p10
    have hm : ∀ v : MV, (k < nA (vM μ) → v = mI (μ 57 k)) → (¬ k < nA (vM μ) → v = mI (-2)) → s_X10_told [mO 9 55, mI (nI (10 + k))] μ (fun v2 μ2 => Gd v v2 μ2) := by
      intro v hv1 hv2
      refine g_X10_told (d_in ?_)
      rw [vI_mI, ite_b, decide_eq_true p10, cond_true]
      refine d_isAct ?_
      rw [vI_mI, ite_b, show nI (10 + k) - 10 = nI k from nI_sub0 10 k, r.n55, isA h1 h6 hk]
      cases hd : decide (k < nA (vM μ)) with
      | false => exact ⟨hv2 (of_decide_eq_false hd), r⟩
      | true =>
        rw [nI_clamp (by omega)]
        exact ⟨vi_nI (by omega) (by decide), hv1 (of_decide_eq_true hd), r⟩
    by_cases hk2 : k < nA (vM μ)
    · have e : decide ((10 : Int32) ≤ nI (10 + k) ∧ nI (10 + k) ≤ 9 + nI (nA (vM μ))) = true := decide_eq_true ⟨p10.1, by rw [show (9 : Int32) = nI 9 from rfl, nI_add]; exact nI_le (by omega) (by omega)⟩
      rw [e, cond_true, show nI (10 + k) - 10 = nI k from nI_sub0 10 k]
      refine c_at (by omega) (by decide) ?_
      exact hm _ (fun _ => by rw [vI_mI, r.e2 (by omega)]) (fun z => absurd hk2 z)
    · have e : decide ((10 : Int32) ≤ nI (10 + k) ∧ nI (10 + k) ≤ 9 + nI (nA (vM μ))) = false := decide_eq_false fun z => by
        have z2 := z.2
        rw [show (9 : Int32) = nI 9 from rfl, nI_add, nI_leI (by omega) (by omega)] at z2
        omega
      rw [e, cond_false]
      refine c_within ?_
      have e2 : decide ((20 : Int32) ≤ nI (10 + k) ∧ nI (10 + k) ≤ 19 + nI (nA (vM μ))) = false := decide_eq_false fun z => by
        have z1 := (nI_leI (a := 20) (b := 10 + k) (by omega) (by omega)).mp z.1
        omega
      rw [vI_mI, ite_b, e2, cond_false]
      have hm := hm (mI (-2)) (fun z => absurd z hk2) (fun _ => rfl)
      have : k = 0 ∨ k = 1 ∨ k = 2 ∨ k = 3 ∨ k = 4 ∨ k = 5 := by omega
      rcases this with rfl | rfl | rfl | rfl | rfl | rfl <;>
        (rw [if_neg (by decide), if_neg (by decide), if_neg (by decide), if_neg (by decide), if_neg (by decide), if_neg (by decide), if_neg (by decide), if_neg (by decide)]; exact hm)
  · have e : decide ((10 : Int32) ≤ a ∧ a ≤ 9 + nI (nA (vM μ))) = false := decide_eq_false fun z => by
      obtain ⟨k, hk, rfl⟩ := told_in (o := 10) h1 h6 (by omega) (by omega) z
      exact p10 ⟨z.1, nI_le (b := 15) (by omega) (by omega)⟩
    rw [e, cond_false]
    refine c_within ?_
    rw [vI_mI, ite_b, r.n3]
    by_cases p20 : (20 : Int32) ≤ a ∧ a ≤ 25
    · obtain ⟨k, hk, rfl⟩ := told_5 (o := 20) (by omega) p20
      have hm : ∀ v : MV, (k < nA (vM μ) → v = mI (μ 59 k)) → (¬ k < nA (vM μ) → v = mI (-2)) → s_X10_told [mO 9 55, mI (nI (20 + k))] μ (fun v2 μ2 => Gd v v2 μ2) := by
        intro v hv1 hv2
        refine g_X10_told (d_in ?_)
        rw [vI_mI, ite_b, decide_eq_false p10, cond_false]
        refine d_in ?_
        rw [vI_mI, ite_b, decide_eq_true p20, cond_true]
        refine d_isAct ?_
        rw [vI_mI, ite_b, show nI (20 + k) - 20 = nI k from nI_sub0 20 k, r.n55, isA h1 h6 hk]
        cases hd : decide (k < nA (vM μ)) with
        | false => exact ⟨hv2 (of_decide_eq_false hd), r⟩
        | true =>
          rw [nI_clamp (by omega)]
          exact ⟨vi_nI (by omega) (by decide), hv1 (of_decide_eq_true hd), r⟩
      by_cases hk2 : k < nA (vM μ)
      · have e : decide ((20 : Int32) ≤ nI (20 + k) ∧ nI (20 + k) ≤ 19 + nI (nA (vM μ))) = true := decide_eq_true ⟨p20.1, by rw [show (19 : Int32) = nI 19 from rfl, nI_add]; exact nI_le (by omega) (by omega)⟩
        rw [e, cond_true, show nI (20 + k) - 20 = nI k from nI_sub0 20 k]
        refine c_at (by omega) (by decide) ?_
        exact hm _ (fun _ => by rw [vI_mI, r.e3 (by omega)]) (fun z => absurd hk2 z)
      · have e : decide ((20 : Int32) ≤ nI (20 + k) ∧ nI (20 + k) ≤ 19 + nI (nA (vM μ))) = false := decide_eq_false fun z => by
          have z2 := z.2
          rw [show (19 : Int32) = nI 19 from rfl, nI_add, nI_leI (by omega) (by omega)] at z2
          omega
        rw [e, cond_false]
        have hm := hm (mI (-2)) (fun z => absurd z hk2) (fun _ => rfl)
        have : k = 0 ∨ k = 1 ∨ k = 2 ∨ k = 3 ∨ k = 4 ∨ k = 5 := by omega
        rcases this with rfl | rfl | rfl | rfl | rfl | rfl <;>
          (rw [if_neg (by decide), if_neg (by decide), if_neg (by decide), if_neg (by decide), if_neg (by decide), if_neg (by decide), if_neg (by decide), if_neg (by decide)]; exact hm)
    · have e : decide ((20 : Int32) ≤ a ∧ a ≤ 19 + nI (nA (vM μ))) = false := decide_eq_false fun z => by
        obtain ⟨k, hk, rfl⟩ := told_in (o := 20) h1 h6 (by omega) (by omega) z
        exact p20 ⟨z.1, nI_le (b := 25) (by omega) (by omega)⟩
      rw [e, cond_false]
      have hm : ∀ v : MV, v = (if a = 0 then mI (μ 55 13) else if a = 1 then mI (μ 55 0) else if a = 2 then mI (μ 55 1) else if a = 3 then mI (μ 55 2) else if a = 4 then mI (μ 55 3) else if a = 5 then mI (μ 55 4) else if a = 6 then mI (μ 55 5) else if a = 7 then mI (μ 55 11) else mI (-2)) → s_X10_told [mO 9 55, mI a] μ (fun v2 μ2 => Gd v v2 μ2) := by
        intro v hv
        refine g_X10_told (d_in ?_)
        rw [vI_mI, ite_b, decide_eq_false p10, cond_false]
        refine d_in ?_
        rw [vI_mI, ite_b, decide_eq_false p20, cond_false]
        split <;> rename_i q0
        · rw [if_pos q0] at hv; exact ⟨hv, r⟩
        rw [if_neg q0] at hv
        split <;> rename_i q1
        · rw [if_pos q1] at hv; exact ⟨hv, r⟩
        rw [if_neg q1] at hv
        split <;> rename_i q2
        · rw [if_pos q2] at hv; exact ⟨hv, r⟩
        rw [if_neg q2] at hv
        split <;> rename_i q3
        · rw [if_pos q3] at hv; exact ⟨hv, r⟩
        rw [if_neg q3] at hv
        split <;> rename_i q4
        · rw [if_pos q4] at hv; exact ⟨hv, r⟩
        rw [if_neg q4] at hv
        split <;> rename_i q5
        · rw [if_pos q5] at hv; exact ⟨hv, r⟩
        rw [if_neg q5] at hv
        split <;> rename_i q6
        · rw [if_pos q6] at hv; exact ⟨hv, r⟩
        rw [if_neg q6] at hv
        split <;> rename_i q7
        · rw [if_pos q7] at hv; exact ⟨hv, r⟩
        rw [if_neg q7] at hv
        exact ⟨hv, r⟩
      split <;> rename_i q0
      · exact hm _ (by rw [if_pos q0, r.2.1.1])
      split <;> rename_i q1
      · exact hm _ (by rw [if_neg q0, if_pos q1, r.n55])
      split <;> rename_i q2
      · exact hm _ (by rw [if_neg q0, if_neg q1, if_pos q2, r.s1])
      split <;> rename_i q3
      · exact hm _ (by rw [if_neg q0, if_neg q1, if_neg q2, if_pos q3, r.s2])
      split <;> rename_i q4
      · exact hm _ (by rw [if_neg q0, if_neg q1, if_neg q2, if_neg q3, if_pos q4, r.s3])
      split <;> rename_i q5
      · exact hm _ (by rw [if_neg q0, if_neg q1, if_neg q2, if_neg q3, if_neg q4, if_pos q5, r.s4])
      split <;> rename_i q6
      · exact hm _ (by rw [if_neg q0, if_neg q1, if_neg q2, if_neg q3, if_neg q4, if_neg q5, if_pos q6, r.s5])
      split <;> rename_i q7
      · exact hm _ (by rw [if_neg q0, if_neg q1, if_neg q2, if_neg q3, if_neg q4, if_neg q5, if_neg q6, if_pos q7, r.s6])
      · exact hm _ (by rw [if_neg q0, if_neg q1, if_neg q2, if_neg q3, if_neg q4, if_neg q5, if_neg q6, if_neg q7])
