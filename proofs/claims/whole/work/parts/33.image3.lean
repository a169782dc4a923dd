/-! ===== IMAGE ===== -/
theorem im_rel0 {μ μ1 μ2 : Mm} (r : Rl μ) (h1 : ∀ c, ¬ (24 ≤ c ∧ c ≤ 24 + 9) → μ1 c = μ c) (h2 : vS μ1 24 = vS μ 3) (h3 : ∀ i, i < 6 → μ1 (24 + 4) i = μ (3 + 4) i) (hI : Iv (mS μ1 23 1 1) (100 * 0) (fun _ => True) μ2) : Rl (mS μ2 71 0 1) := by
  have kp : ∀ c, c ≠ 70 → c ≠ 71 → c ≠ 23 → ¬ (24 ≤ c ∧ c ≤ 24 + 9) → mS μ2 71 0 1 c = μ c := fun c a1 a2 a3 a4 => by
    rw [mS_c a2, hI.1 c a1, mS_c a3, h1 c a4]
  have e3 : vS (mS μ2 71 0 1) 3 = vS μ 3 := vS_congr fun d hd => kp _ (by omega) (by omega) (by omega) (by omega)
  have eM : vM (mS μ2 71 0 1) = vM μ := vM_congr (fun k _ => by rw [kp 55 (by decide) (by decide) (by decide) (by decide)]) (by rw [kp 55 (by decide) (by decide) (by decide) (by decide)]) (kp 56 (by decide) (by decide) (by decide) (by decide)) (kp 57 (by decide) (by decide) (by decide) (by decide)) (kp 59 (by decide) (by decide) (by decide) (by decide)) (kp 60 (by decide) (by decide) (by decide) (by decide)) (kp 61 (by decide) (by decide) (by decide) (by decide))
  have eN : vM (mS μ1 23 1 1) = vM μ := vM_congr (fun k _ => by rw [mS_c (by decide), h1 55 (by decide)]) (by rw [mS_c (by decide), h1 55 (by decide)]) (by rw [mS_c (by decide), h1 _ (by decide)]) (by rw [mS_c (by decide), h1 _ (by decide)]) (by rw [mS_c (by decide), h1 _ (by decide)]) (by rw [mS_c (by decide), h1 _ (by decide)]) (by rw [mS_c (by decide), h1 _ (by decide)])
  have eV : vS (mS μ2 71 0 1) 24 = vM μ := by
    rw [← r.v, ← h2]
    exact vS_congr fun d hd => by rw [mS_c (by omega), hI.1 _ (by omega), mS_c (by omega)]
  have eW : vS (mS μ2 71 0 1) 35 = vS μ 35 := vS_congr fun d hd => kp _ (by omega) (by omega) (by omega) (by omega)
  have new : Pi1 (mS μ2 71 0 1 23 1) (vS (mS μ2 71 0 1) 24) (mS μ2 71 0 1 (24 + 4)) (mS μ2 71 0 1 70) (100 * 0) (mS μ2 71 0 1 71 0) := by
    rw [mS_eq, mS_c (by decide), hI.1 23 (by decide), mS_eq]
    refine Pi1_nw r (μ' := mS μ1 23 1 1) eN ?_ eV (fun x hx => ?_) (fun i hi => ?_)
    · rw [mS_c (by decide), h1 58 (by decide)]
    · rw [mS_c (by decide), hI.1 _ (by decide), mS_c (by decide)]
      exact h3 x hx
    · rw [mS_c (by decide)]
      exact hI.2.2 i hi trivial
  have old : Pi1 (mS μ2 71 0 1 34 1) (vS (mS μ2 71 0 1) 35) (mS μ2 71 0 1 (35 + 4)) (mS μ2 71 0 1 70) (100 * 1) (mS μ2 71 0 1 71 1) := by
    rw [eW, kp 34 (by decide) (by decide) (by decide) (by decide), kp (35 + 4) (by decide) (by decide) (by decide) (by decide), mS_c (c' := 70) (by decide), mS_k (c := 71) (by decide), hI.1 71 (by decide), mS_c (c' := 71) (by decide), h1 71 (by decide)]
    refine Pi1_cg (im := μ 70) rfl (fun _ _ => rfl) (fun i hi => ?_) r.2.2.2.2
    rw [hI.2.1 (100 * 1 + i) (by omega), mS_c (by decide), h1 70 (by decide)]
  refine ⟨⟨by rw [e3, eM]; exact r.v, by rw [eM]; exact r.wf⟩, ?_, ?_, new, old⟩
  · rw [kp 1 (by decide) (by decide) (by decide) (by decide), kp 2 (by decide) (by decide) (by decide) (by decide), kp 55 (by decide) (by decide) (by decide) (by decide), kp 62 (by decide) (by decide) (by decide) (by decide)]
    exact r.2.1
  · rw [eM, kp 7 (by decide) (by decide) (by decide) (by decide), kp 58 (by decide) (by decide) (by decide) (by decide)]
    exact r.2.2.1
theorem im_rel1 {μ μ1 μ2 : Mm} (r : Rl μ) (h1 : ∀ c, ¬ (35 ≤ c ∧ c ≤ 35 + 9) → μ1 c = μ c) (h2 : vS μ1 35 = vS μ 3) (h3 : ∀ i, i < 6 → μ1 (35 + 4) i = μ (3 + 4) i) (hI : Iv (mS μ1 34 1 1) (100 * 1) (fun _ => True) μ2) : Rl (mS μ2 71 1 1) := by
  have kp : ∀ c, c ≠ 70 → c ≠ 71 → c ≠ 34 → ¬ (35 ≤ c ∧ c ≤ 35 + 9) → mS μ2 71 1 1 c = μ c := fun c a1 a2 a3 a4 => by
    rw [mS_c a2, hI.1 c a1, mS_c a3, h1 c a4]
  have e3 : vS (mS μ2 71 1 1) 3 = vS μ 3 := vS_congr fun d hd => kp _ (by omega) (by omega) (by omega) (by omega)
  have eM : vM (mS μ2 71 1 1) = vM μ := vM_congr (fun k _ => by rw [kp 55 (by decide) (by decide) (by decide) (by decide)]) (by rw [kp 55 (by decide) (by decide) (by decide) (by decide)]) (kp 56 (by decide) (by decide) (by decide) (by decide)) (kp 57 (by decide) (by decide) (by decide) (by decide)) (kp 59 (by decide) (by decide) (by decide) (by decide)) (kp 60 (by decide) (by decide) (by decide) (by decide)) (kp 61 (by decide) (by decide) (by decide) (by decide))
  have eN : vM (mS μ1 34 1 1) = vM μ := vM_congr (fun k _ => by rw [mS_c (by decide), h1 55 (by decide)]) (by rw [mS_c (by decide), h1 55 (by decide)]) (by rw [mS_c (by decide), h1 _ (by decide)]) (by rw [mS_c (by decide), h1 _ (by decide)]) (by rw [mS_c (by decide), h1 _ (by decide)]) (by rw [mS_c (by decide), h1 _ (by decide)]) (by rw [mS_c (by decide), h1 _ (by decide)])
  have eV : vS (mS μ2 71 1 1) 35 = vM μ := by
    rw [← r.v, ← h2]
    exact vS_congr fun d hd => by rw [mS_c (by omega), hI.1 _ (by omega), mS_c (by omega)]
  have eW : vS (mS μ2 71 1 1) 24 = vS μ 24 := vS_congr fun d hd => kp _ (by omega) (by omega) (by omega) (by omega)
  have new : Pi1 (mS μ2 71 1 1 34 1) (vS (mS μ2 71 1 1) 35) (mS μ2 71 1 1 (35 + 4)) (mS μ2 71 1 1 70) (100 * 1) (mS μ2 71 1 1 71 1) := by
    rw [mS_eq, mS_c (by decide), hI.1 34 (by decide), mS_eq]
    refine Pi1_nw r (μ' := mS μ1 34 1 1) eN ?_ eV (fun x hx => ?_) (fun i hi => ?_)
    · rw [mS_c (by decide), h1 58 (by decide)]
    · rw [mS_c (by decide), hI.1 _ (by decide), mS_c (by decide)]
      exact h3 x hx
    · rw [mS_c (by decide)]
      exact hI.2.2 i hi trivial
  have old : Pi1 (mS μ2 71 1 1 23 1) (vS (mS μ2 71 1 1) 24) (mS μ2 71 1 1 (24 + 4)) (mS μ2 71 1 1 70) (100 * 0) (mS μ2 71 1 1 71 0) := by
    rw [eW, kp 23 (by decide) (by decide) (by decide) (by decide), kp (24 + 4) (by decide) (by decide) (by decide) (by decide), mS_c (c' := 70) (by decide), mS_k (c := 71) (by decide), hI.1 71 (by decide), mS_c (c' := 71) (by decide), h1 71 (by decide)]
    refine Pi1_cg (im := μ 70) rfl (fun _ _ => rfl) (fun i hi => ?_) r.2.2.2.1
    rw [hI.2.1 (100 * 0 + i) (by omega), mS_c (by decide), h1 70 (by decide)]
  refine ⟨⟨by rw [e3, eM]; exact r.v, by rw [eM]; exact r.wf⟩, ?_, ?_, old, new⟩
  · rw [kp 1 (by decide) (by decide) (by decide) (by decide), kp 2 (by decide) (by decide) (by decide) (by decide), kp 55 (by decide) (by decide) (by decide) (by decide), kp 62 (by decide) (by decide) (by decide) (by decide)]
    exact r.2.1
  · rw [eM, kp 7 (by decide) (by decide) (by decide) (by decide), kp 58 (by decide) (by decide) (by decide) (by decide)]
    exact r.2.2.1
theorem call_image {μ : Mm} (r : Rl μ) (a : Int32) : s_X9_image [mO 8 0, mI a] μ (fun v1 μ1 => s_X10_image [mO 9 55, mI a] μ1 (fun v2 μ2 => Gd v1 v2 μ2)) := by
  refine g_X9_image (c_within ?_)
  rw [vI_mI, ite_b]
  cases hb : decide (0 ≤ a ∧ a ≤ 1) with
  | false =>
    rw [cond_false]
    refine g_X10_image (d_in ?_)
    rw [vI_mI, ite_b, hb]
    exact ⟨rfl, r⟩
  | true =>
    rw [cond_true]
    obtain ⟨k, hk, rfl⟩ := nI_btw (n := 1) (by decide) (of_decide_eq_true hb).1 (of_decide_eq_true hb).2
    refine g_X9_imageOf ?_
    rcases (show k = 0 ∨ k = 1 by omega) with rfl | rfl
    · rw [if_pos (show nI 0 = 0 from rfl)]
      refine c_copyFrom (a := 24) (b := 3) (by omega) fun μ1 h1 h2 h3 => ⟨zb1, ?_⟩
      show s_X10_image [mO 9 55, mI (nI 0)] (mS μ1 23 1 1) (fun v2 μ2 => Gd (mI 1) v2 μ2)
      refine g_X10_image (d_in ?_)
      rw [vI_mI, ite_b, hb, cond_true, show (100 : Int32) * nI 0 = nI (100 * 0) from nI_mul 100 0]
      exact d_image (by omega) fun μ2 hI => ⟨rfl, im_rel0 r h1 h2 h3 hI⟩
    · rw [if_neg (show ¬ nI 1 = 0 by decide)]
      refine c_copyFrom (a := 35) (b := 3) (by omega) fun μ1 h1 h2 h3 => ⟨zb1, ?_⟩
      show s_X10_image [mO 9 55, mI (nI 1)] (mS μ1 34 1 1) (fun v2 μ2 => Gd (mI 1) v2 μ2)
      refine g_X10_image (d_in ?_)
      rw [vI_mI, ite_b, hb, cond_true, show (100 : Int32) * nI 1 = nI (100 * 1) from nI_mul 100 1]
      exact d_image (by omega) fun μ2 hI => ⟨rfl, im_rel1 r h1 h2 h3 hI⟩
