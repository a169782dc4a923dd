/-! ===== RESTORE ===== -/
def cl9 (i : Nat) : Nat × Nat := if i < 48 then (56, i) else if i < 54 then (57, i - 48) else if i < 60 then (58, i - 54) else if i < 66 then (59, i - 60) else if i < 84 then (61, i - 66) else if i = 84 then (55, 0) else if i = 85 then (55, 1) else if i = 86 then (55, 2) else if i = 87 then (55, 3) else if i = 88 then (55, 4) else if i = 89 then (55, 5) else if i = 90 then (55, 11) else (60, i - 91)
theorem img_cl {μ : Mm} {i : Nat} : img μ i = μ (cl9 i).1 (cl9 i).2 := by
  unfold img cl9
  by_cases a0 : i < 48
  · simp only [if_pos a0]
  simp only [if_neg a0]
  by_cases a1 : i < 54
  · simp only [if_pos a1]
  simp only [if_neg a1]
  by_cases a2 : i < 60
  · simp only [if_pos a2]
  simp only [if_neg a2]
  by_cases a3 : i < 66
  · simp only [if_pos a3]
  simp only [if_neg a3]
  by_cases a4 : i < 84
  · simp only [if_pos a4]
  simp only [if_neg a4]
  by_cases a5 : i = 84
  · simp only [if_pos a5]
  simp only [if_neg a5]
  by_cases a6 : i = 85
  · simp only [if_pos a6]
  simp only [if_neg a6]
  by_cases a7 : i = 86
  · simp only [if_pos a7]
  simp only [if_neg a7]
  by_cases a8 : i = 87
  · simp only [if_pos a8]
  simp only [if_neg a8]
  by_cases a9 : i = 88
  · simp only [if_pos a9]
  simp only [if_neg a9]
  by_cases a10 : i = 89
  · simp only [if_pos a10]
  simp only [if_neg a10]
  by_cases a11 : i = 90
  · simp only [if_pos a11]
  simp only [if_neg a11]
theorem cl9_inj : ∀ i, i < 99 → ∀ j, j < 99 → cl9 i = cl9 j → i = j := by decide +kernel
theorem cl9_rg : ∀ i, i < 99 → 55 ≤ (cl9 i).1 ∧ (cl9 i).1 ≤ 61 ∧ ((cl9 i).1 = 55 → (cl9 i).2 < 6 ∨ (cl9 i).2 = 11) := by decide +kernel
def Jv (μ : Mm) (o : Nat) (P : Nat → Prop) (μ' : Mm) : Prop := (∀ c, c < 55 ∨ 61 < c → μ' c = μ c) ∧ (∀ k, ¬ (k < 6 ∨ k = 11) → μ' 55 k = μ 55 k) ∧ ∀ i, i < 99 → P i → img μ' i = μ 70 (o + i)
theorem Jv.st {μ μ' : Mm} {o : Nat} {P Q : Nat → Prop} (h : Jv μ o P μ') {i0 c j : Nat} {x : Int32} (hi : i0 < 99) (hc : (c, j) = cl9 i0) (hx : x = μ 70 (o + i0)) (hQ : ∀ i, Q i → i = i0 ∨ P i) : Jv μ o Q (mS μ' c j x) := by
  obtain ⟨b1, b2, b3⟩ := cl9_rg i0 hi
  rw [← hc] at b1 b2 b3
  refine ⟨fun c' hr => ?_, fun k hk => ?_, fun i h9 hq => ?_⟩
  · rw [mS_c (by show c' ≠ c; have : 55 ≤ c := b1; have : c ≤ 61 := b2; omega)]; exact h.1 c' hr
  · rw [mS_ne (fun z => hk (by rw [z.2]; exact b3 z.1.symm))]
    exact h.2.1 k hk
  · by_cases e : i = i0
    · subst e
      rw [img_cl, ← hc]
      show mS μ' c j x c j = _
      rw [mS_eq]
      exact hx
    · have := h.2.2 i h9 ((hQ i hq).resolve_left e)
      rw [img_cl] at this
      rw [img_cl, mS_ne (fun z => e (cl9_inj i h9 i0 hi (by rw [← hc]; exact Prod.ext z.1 z.2)))]
      exact this
theorem cl_0 {i : Nat} (h : i < 48) : (56, i) = cl9 i := by unfold cl9; rw [if_pos h]
theorem cl_1 {i : Nat} (h : i < 6) : (57, i) = cl9 (48 + i) := by
  unfold cl9
  rw [if_neg (by omega), if_pos (by omega), show 48 + i - 48 = i by omega]
theorem cl_2 {i : Nat} (h : i < 6) : (58, i) = cl9 (54 + i) := by
  unfold cl9
  rw [if_neg (by omega), if_neg (by omega), if_pos (by omega), show 54 + i - 54 = i by omega]
theorem cl_3 {i : Nat} (h : i < 6) : (59, i) = cl9 (60 + i) := by
  unfold cl9
  rw [if_neg (by omega), if_neg (by omega), if_neg (by omega), if_pos (by omega), show 60 + i - 60 = i by omega]
theorem cl_4 {i : Nat} (h : i < 18) : (61, i) = cl9 (66 + i) := by
  unfold cl9
  rw [if_neg (by omega), if_neg (by omega), if_neg (by omega), if_neg (by omega), if_pos (by omega), show 66 + i - 66 = i by omega]
theorem cl_5 {i : Nat} : (60, i) = cl9 (91 + i) := by
  unfold cl9
  rw [if_neg (by omega), if_neg (by omega), if_neg (by omega), if_neg (by omega), if_neg (by omega), if_neg (by omega), if_neg (by omega), if_neg (by omega), if_neg (by omega), if_neg (by omega), if_neg (by omega), if_neg (by omega), show 91 + i - 91 = i by omega]
theorem d_restore {μ : Mm} {K : MV → Mm → Prop} {a : Nat} (ha : a < 2) (hK : ∀ μ', Jv μ (100 * a) (fun _ => True) μ' → K (mI 1) μ') : Tot e_X10_restore K 31 [mO 9 55, mI (nI a), mI (nI (100 * a)), mI 0] [] μ := by
  generalize ho : 100 * a = o at hK ⊢
  have ho2 : o ≤ 100 := by omega
  have l4 : ∀ (d k : Nat) (μ' : Mm), k + d = 8 → Jv μ o (fun i => i < 84 ∨ (91 ≤ i ∧ i < 91 + k)) μ' → Tot e_X10_restore K 155 [mO 9 55, mI (nI a), mI (nI o), mI (nI k)] [] μ' := by
    intro d
    induction d with
    | zero =>
      intro k μ' hk h
      have e : k = 8 := by omega
      subst e
      refine g_X10_restore_155 ?_
      rw [if_pos (show (8 : Int32) ≤ nI 8 by decide)]
      have e84 : nI o + 84 = nI (o + 84) := nI_add o 84
      have e85 : nI o + 85 = nI (o + 85) := nI_add o 85
      have e86 : nI o + 86 = nI (o + 86) := nI_add o 86
      have e87 : nI o + 87 = nI (o + 87) := nI_add o 87
      have e88 : nI o + 88 = nI (o + 88) := nI_add o 88
      have e89 : nI o + 89 = nI (o + 89) := nI_add o 89
      have e90 : nI o + 90 = nI (o + 90) := nI_add o 90
      rw [e84, e85, e86, e87, e88, e89, e90]
      refine ⟨vi_nI (by omega) (by decide), vi_nI (by omega) (by decide), vi_nI (by omega) (by decide), vi_nI (by omega) (by decide), vi_nI (by omega) (by decide), vi_nI (by omega) (by decide), vi_nI (by omega) (by decide), ?_⟩
      rw [nI_clamp (by omega), nI_clamp (by omega), nI_clamp (by omega), nI_clamp (by omega), nI_clamp (by omega), nI_clamp (by omega), nI_clamp (by omega)]
      simp (disch := decide) only [mS_c]
      rw [h.1 70 (by decide)]
      refine hK _ (Jv.st (P := fun i => i ≠ 90) (Jv.st (P := fun i => i ≠ 90 ∧ i ≠ 89) (Jv.st (P := fun i => i ≠ 90 ∧ i ≠ 89 ∧ i ≠ 88) (Jv.st (P := fun i => i ≠ 90 ∧ i ≠ 89 ∧ i ≠ 88 ∧ i ≠ 87) (Jv.st (P := fun i => i ≠ 90 ∧ i ≠ 89 ∧ i ≠ 88 ∧ i ≠ 87 ∧ i ≠ 86) (Jv.st (P := fun i => i ≠ 90 ∧ i ≠ 89 ∧ i ≠ 88 ∧ i ≠ 87 ∧ i ≠ 86 ∧ i ≠ 85) (Jv.st (i0 := 84) (P := fun i => i < 84 ∨ (91 ≤ i)) ?_ (by decide) rfl rfl (fun i q => by omega)) (i0 := 85) (by decide) rfl rfl (fun i q => by omega)) (i0 := 86) (by decide) rfl rfl (fun i q => by omega)) (i0 := 87) (by decide) rfl rfl (fun i q => by omega)) (i0 := 88) (by decide) rfl rfl (fun i q => by omega)) (i0 := 89) (by decide) rfl rfl (fun i q => by omega)) (i0 := 90) (by decide) rfl rfl (fun i q => by omega))
      exact ⟨h.1, h.2.1, fun i h9 q => h.2.2 i h9 (by omega)⟩
    | succ d ih =>
      intro k μ' hk h
      refine g_X10_restore_155 ?_
      rw [if_neg (show ¬ (8 : Int32) ≤ nI k from nI_ge (b := 8) (by omega) (by omega))]
      have e1 : (nI o + 91) + nI k = nI (o + (91 + k)) := by
        rw [show (91 : Int32) = nI 91 from rfl, nI_add, nI_add, Nat.add_assoc]
      rw [e1, nI_clamp (by omega), nI_clamp (by omega), h.1 70 (by decide), nI_1]
      refine ⟨vi_nI (by omega) (by decide), vi_nI (by omega) (by decide), ?_⟩
      exact ih (k + 1) _ (by omega) (h.st (by omega) cl_5 rfl (fun i q => by omega))
  have l3 : ∀ (d k : Nat) (μ' : Mm), k + d = 18 → Jv μ o (fun i => i < 66 + k) μ' → Tot e_X10_restore K 124 [mO 9 55, mI (nI a), mI (nI o), mI (nI k)] [] μ' := by
    intro d
    induction d with
    | zero =>
      intro k μ' hk h
      have e : k = 18 := by omega
      subst e
      refine g_X10_restore_124 ?_
      rw [if_pos (show (18 : Int32) ≤ nI 18 by decide)]
      exact l4 8 0 μ' rfl ⟨h.1, h.2.1, fun i h9 q => h.2.2 i h9 (by omega)⟩
    | succ d ih =>
      intro k μ' hk h
      refine g_X10_restore_124 ?_
      rw [if_neg (show ¬ (18 : Int32) ≤ nI k from nI_ge (b := 18) (by omega) (by omega))]
      have e1 : (nI o + 66) + nI k = nI (o + (66 + k)) := by
        rw [show (66 : Int32) = nI 66 from rfl, nI_add, nI_add, Nat.add_assoc]
      rw [e1, nI_clamp (by omega), nI_clamp (by omega), h.1 70 (by decide), nI_1]
      refine ⟨vi_nI (by omega) (by decide), vi_nI (by omega) (by decide), ?_⟩
      exact ih (k + 1) _ (by omega) (h.st (by omega) (cl_4 (by omega)) rfl (fun i q => by omega))
  have l2 : ∀ (d k : Nat) (μ' : Mm), k + d = 6 → Jv μ o (fun i => i < 48 + k ∨ (54 ≤ i ∧ i < 54 + k) ∨ (60 ≤ i ∧ i < 60 + k)) μ' → Tot e_X10_restore K 59 [mO 9 55, mI (nI a), mI (nI o), mI (nI k)] [] μ' := by
    intro d
    induction d with
    | zero =>
      intro k μ' hk h
      have e : k = 6 := by omega
      subst e
      refine g_X10_restore_59 ?_
      rw [if_pos (show (6 : Int32) ≤ nI 6 by decide)]
      exact l3 18 0 μ' rfl ⟨h.1, h.2.1, fun i h9 q => h.2.2 i h9 (by omega)⟩
    | succ d ih =>
      intro k μ' hk h
      refine g_X10_restore_59 ?_
      rw [if_neg (show ¬ (6 : Int32) ≤ nI k from nI_ge (b := 6) (by omega) (by omega))]
      have e1 : (nI o + 48) + nI k = nI (o + (48 + k)) := by
        rw [show (48 : Int32) = nI 48 from rfl, nI_add, nI_add, Nat.add_assoc]
      have e2 : (nI o + 54) + nI k = nI (o + (54 + k)) := by
        rw [show (54 : Int32) = nI 54 from rfl, nI_add, nI_add, Nat.add_assoc]
      have e3 : (nI o + 60) + nI k = nI (o + (60 + k)) := by
        rw [show (60 : Int32) = nI 60 from rfl, nI_add, nI_add, Nat.add_assoc]
      rw [e1, e2, e3, nI_clamp (by omega), nI_clamp (by omega), nI_clamp (by omega), nI_clamp (by omega), nI_1]
      simp (disch := decide) only [mS_c]
      rw [h.1 70 (by decide)]
      refine ⟨vi_nI (by omega) (by decide), vi_nI (by omega) (by decide), vi_nI (by omega) (by decide), vi_nI (by omega) (by decide), vi_nI (by omega) (by decide), vi_nI (by omega) (by decide), ?_⟩
      refine ih (k + 1) _ (by omega) (Jv.st (P := fun i => i < 48 + (k + 1) ∨ (54 ≤ i ∧ i < 54 + (k + 1)) ∨ (60 ≤ i ∧ i < 60 + k)) (Jv.st (P := fun i => i < 48 + (k + 1) ∨ (54 ≤ i ∧ i < 54 + k) ∨ (60 ≤ i ∧ i < 60 + k)) (h.st (by omega) (cl_1 (by omega)) rfl (fun i q => by omega)) (by omega) (cl_2 (by omega)) rfl (fun i q => by omega)) (by omega) (cl_3 (by omega)) rfl (fun i q => by omega))
  have l1 : ∀ (d k : Nat) (μ' : Mm), k + d = 48 → Jv μ o (fun i => i < k) μ' → Tot e_X10_restore K 31 [mO 9 55, mI (nI a), mI (nI o), mI (nI k)] [] μ' := by
    intro d
    induction d with
    | zero =>
      intro k μ' hk h
      have e : k = 48 := by omega
      subst e
      refine g_X10_restore_31 ?_
      rw [if_pos (show (48 : Int32) ≤ nI 48 by decide)]
      exact l2 6 0 μ' rfl ⟨h.1, h.2.1, fun i h9 q => h.2.2 i h9 (by omega)⟩
    | succ d ih =>
      intro k μ' hk h
      refine g_X10_restore_31 ?_
      rw [if_neg (show ¬ (48 : Int32) ≤ nI k from nI_ge (b := 48) (by omega) (by omega)), nI_add, nI_clamp (by omega), nI_clamp (by omega), h.1 70 (by decide), nI_1]
      refine ⟨vi_nI (by omega) (by decide), vi_nI (by omega) (by decide), ?_⟩
      exact ih (k + 1) _ (by omega) (h.st (by omega) (cl_0 (by omega)) rfl (fun i q => by omega))
  exact l1 48 0 μ rfl ⟨fun _ _ => rfl, fun _ _ => rfl, fun i _ q => absurd q (Nat.not_lt_zero i)⟩
theorem re_rel0 {μ μ1 μ2 : Mm} (r : Rl μ) (ht : μ 71 0 = 1) (h1 : ∀ c, ¬ (3 ≤ c ∧ c ≤ 3 + 9) → μ1 c = μ c) (h2 : vS μ1 3 = vS μ 24) (h3 : ∀ i, i < 6 → μ1 (3 + 4) i = μ (24 + 4) i) (hI : Jv μ1 (100 * 0) (fun _ => True) μ2) : Rl μ2 := by
  obtain ⟨p, q, w⟩ := r.2.2.2.1.2.2 ht
  have e3 : vS μ2 3 = vS μ 24 := by
    rw [← h2]
    exact vS_congr fun d hd => hI.1 _ (by omega)
  have eM : vIm (μ 70) (100 * 0) = vM μ2 := vIm_new fun i hi => by
    rw [hI.2.2 i hi trivial, h1 70 (by decide)]
  have eM2 : vS μ 24 = vM μ2 := p.trans eM
  refine ⟨⟨by rw [e3]; exact eM2, by rw [← eM2]; exact q⟩, ?_, ?_, Pir.fr (μ := μ) (fun c a1 a2 a3 => by rw [hI.1 c (by omega), h1 c (by omega)]) r.2.2.2⟩
  · rw [hI.1 1 (by decide), hI.1 2 (by decide), hI.2.1 13 (by decide), hI.1 62 (by decide), h1 1 (by decide), h1 2 (by decide), h1 55 (by decide), h1 62 (by decide)]
    exact r.2.1
  · rw [← eM2]
    refine Pm_cg (fun x hx => ?_) (fun x hx => ?_) w
    · rw [hI.1 7 (by decide)]
      exact (h3 x hx).symm
    · show μ 70 (100 * 0 + 54 + x) = μ2 58 x
      rw [img_2 (μ := μ2) hx, hI.2.2 _ (by omega) trivial, h1 70 (by decide)]
      exact congrArg (μ 70) (by omega)
theorem re_rel1 {μ μ1 μ2 : Mm} (r : Rl μ) (ht : μ 71 1 = 1) (h1 : ∀ c, ¬ (3 ≤ c ∧ c ≤ 3 + 9) → μ1 c = μ c) (h2 : vS μ1 3 = vS μ 35) (h3 : ∀ i, i < 6 → μ1 (3 + 4) i = μ (35 + 4) i) (hI : Jv μ1 (100 * 1) (fun _ => True) μ2) : Rl μ2 := by
  obtain ⟨p, q, w⟩ := r.2.2.2.2.2.2 ht
  have e3 : vS μ2 3 = vS μ 35 := by
    rw [← h2]
    exact vS_congr fun d hd => hI.1 _ (by omega)
  have eM : vIm (μ 70) (100 * 1) = vM μ2 := vIm_new fun i hi => by
    rw [hI.2.2 i hi trivial, h1 70 (by decide)]
  have eM2 : vS μ 35 = vM μ2 := p.trans eM
  refine ⟨⟨by rw [e3]; exact eM2, by rw [← eM2]; exact q⟩, ?_, ?_, Pir.fr (μ := μ) (fun c a1 a2 a3 => by rw [hI.1 c (by omega), h1 c (by omega)]) r.2.2.2⟩
  · rw [hI.1 1 (by decide), hI.1 2 (by decide), hI.2.1 13 (by decide), hI.1 62 (by decide), h1 1 (by decide), h1 2 (by decide), h1 55 (by decide), h1 62 (by decide)]
    exact r.2.1
  · rw [← eM2]
    refine Pm_cg (fun x hx => ?_) (fun x hx => ?_) w
    · rw [hI.1 7 (by decide)]
      exact (h3 x hx).symm
    · show μ 70 (100 * 1 + 54 + x) = μ2 58 x
      rw [img_2 (μ := μ2) hx, hI.2.2 _ (by omega) trivial, h1 70 (by decide)]
      exact congrArg (μ 70) (by omega)
theorem call_restore {μ : Mm} (r : Rl μ) (a : Int32) : s_X9_restore [mO 8 0, mI a] μ (fun v1 μ1 => s_X10_restore [mO 9 55, mI a] μ1 (fun v2 μ2 => Gd v1 v2 μ2)) := by
  refine g_X9_restore (c_within ?_)
  rw [vI_mI, ite_b]
  cases hb : decide (0 ≤ a ∧ a ≤ 1) with
  | false =>
    rw [cond_false]
    refine g_X10_restore (d_in ?_)
    rw [vI_mI, ite_b, hb]
    exact ⟨rfl, r⟩
  | true =>
    rw [cond_true]
    obtain ⟨k, hk, rfl⟩ := nI_btw (n := 1) (by decide) (of_decide_eq_true hb).1 (of_decide_eq_true hb).2
    refine g_X9_imageOf ?_
    rcases (show k = 0 ∨ k = 1 by omega) with rfl | rfl
    · rw [if_pos (show nI 0 = 0 from rfl)]
      show (if μ 23 1 = 0 then s_X10_restore [mO 9 55, mI (nI 0)] μ (fun v2 μ2 => Gd (mI (-3)) v2 μ2) else s_X8_copyFrom [mO 7 3, mO 7 24] μ (fun _ μ1 => s_X10_restore [mO 9 55, mI (nI 0)] μ1 (fun v2 μ2 => Gd (mI 1) v2 μ2)))
      have et : μ 23 1 = μ 71 0 := r.2.2.2.1.1
      have ez : zb (μ 71 0) := r.2.2.2.1.2.1
      split
      · rename_i q
        refine g_X10_restore (d_in ?_)
        rw [vI_mI, ite_b, hb, cond_true, nI_clamp (by decide), ← et, if_pos q]
        exact ⟨vi_nI (by decide) (by decide), rfl, r⟩
      · rename_i q
        refine c_copyFrom (a := 3) (b := 24) (by omega) fun μ1 h1 h2 h3 => ?_
        have ht : μ 71 0 = 1 := ez.resolve_left (by rw [← et]; exact q)
        refine g_X10_restore (d_in ?_)
        rw [vI_mI, ite_b, hb, cond_true, nI_clamp (by decide), h1 71 (by decide), ht, if_neg (by decide), show (100 : Int32) * nI 0 = nI (100 * 0) from nI_mul 100 0]
        exact ⟨vi_nI (by decide) (by decide), d_restore (by omega) fun μ2 hI => ⟨rfl, re_rel0 r ht h1 h2 h3 hI⟩⟩
    · rw [if_neg (show ¬ nI 1 = 0 by decide)]
      show (if μ 34 1 = 0 then s_X10_restore [mO 9 55, mI (nI 1)] μ (fun v2 μ2 => Gd (mI (-3)) v2 μ2) else s_X8_copyFrom [mO 7 3, mO 7 35] μ (fun _ μ1 => s_X10_restore [mO 9 55, mI (nI 1)] μ1 (fun v2 μ2 => Gd (mI 1) v2 μ2)))
      have et : μ 34 1 = μ 71 1 := r.2.2.2.2.1
      have ez : zb (μ 71 1) := r.2.2.2.2.2.1
      split
      · rename_i q
        refine g_X10_restore (d_in ?_)
        rw [vI_mI, ite_b, hb, cond_true, nI_clamp (by decide), ← et, if_pos q]
        exact ⟨vi_nI (by decide) (by decide), rfl, r⟩
      · rename_i q
        refine c_copyFrom (a := 3) (b := 35) (by omega) fun μ1 h1 h2 h3 => ?_
        have ht : μ 71 1 = 1 := ez.resolve_left (by rw [← et]; exact q)
        refine g_X10_restore (d_in ?_)
        rw [vI_mI, ite_b, hb, cond_true, nI_clamp (by decide), h1 71 (by decide), ht, if_neg (by decide), show (100 : Int32) * nI 1 = nI (100 * 1) from nI_mul 100 1]
        exact ⟨vi_nI (by decide) (by decide), d_restore (by omega) fun μ2 hI => ⟨rfl, re_rel1 r ht h1 h2 h3 hI⟩⟩
