/-! ===== worths that fit what was seen ===== -/
theorem vS_wr {μ : Mm} {c i : Nat} {x : Int32} (h : i < 48) : vS (mS μ (c + 2) i x) c = mS (vS μ c) 1 i x := by
  have h0 : mS μ (c + 2) i x c = μ c := mS_c (by omega)
  have h1 : mS μ (c + 2) i x (c + 1) = μ (c + 1) := mS_c (by omega)
  have h3 : mS μ (c + 2) i x (c + 3) = μ (c + 3) := mS_c (by omega)
  have h5 : mS μ (c + 2) i x (c + 5) = μ (c + 5) := mS_c (by omega)
  have h6 : mS μ (c + 2) i x (c + 6) = μ (c + 6) := mS_c (by omega)
  have h7 : mS μ (c + 2) i x (c + 7) = μ (c + 7) := mS_c (by omega)
  have h8 : mS μ (c + 2) i x (c + 8) = μ (c + 8) := mS_c (by omega)
  have h9 : mS μ (c + 2) i x (c + 9) = μ (c + 9) := mS_c (by omega)
  funext r j
  by_cases e : r = 1
  · subst e
    show tr 48 (mS μ (c + 2) i x (c + 2)) j = mS (vS μ c) 1 i x 1 j
    by_cases e2 : j = i
    · subst e2
      rw [tr_at h, mS_eq, mS_eq]
    · rw [mS_k e2]
      show _ = tr 48 (μ (c + 2)) j
      unfold tr
      rw [mS_k e2]
  · rw [mS_c e]
    unfold vS
    simp only [h0, h1, h3, h5, h6, h7, h8, h9]
    match r with
    | 0 => rfl
    | 1 => exact absurd rfl e
    | 2 => rfl
    | 3 => rfl
    | 4 => rfl
    | 5 => rfl
    | 6 => rfl
    | 7 => rfl
    | r + 8 => rfl
theorem vM_wr {μ : Mm} {i : Nat} {x : Int32} (h : i < 48) : vM (mS μ 56 i x) = mS (vM μ) 1 i x := by
  have h0 : mS μ 56 i x 55 = μ 55 := mS_c (by decide)
  have h1 : mS μ 56 i x 57 = μ 57 := mS_c (by decide)
  have h3 : mS μ 56 i x 59 = μ 59 := mS_c (by decide)
  have h5 : mS μ 56 i x 60 = μ 60 := mS_c (by decide)
  have h6 : mS μ 56 i x 61 = μ 61 := mS_c (by decide)
  funext r j
  by_cases e : r = 1
  · subst e
    show tr 48 (mS μ 56 i x 56) j = mS (vM μ) 1 i x 1 j
    by_cases e2 : j = i
    · subst e2
      rw [tr_at h, mS_eq, mS_eq]
    · rw [mS_k e2]
      show _ = tr 48 (μ 56) j
      unfold tr
      rw [mS_k e2]
  · rw [mS_c e]
    unfold vM
    simp only [h0, h1, h3, h5, h6]
    match r with
    | 0 => rfl
    | 1 => exact absurd rfl e
    | 2 => rfl
    | 3 => rfl
    | 4 => rfl
    | 5 => rfl
    | 6 => rfl
    | 7 => rfl
    | r + 8 => rfl
/-- whether the first sights agree with what is told -/
def sn (u : Vw) (g : Nat) : Nat → Bool
  | 0 => true
  | i + 1 => sn u g i && (if u 5 i = nI g then decide (nI (LV (mS u 0 2 (u 7 i)) g) = u 6 i) else true)
theorem sn_mono {u : Vw} {g : Nat} : ∀ (d j : Nat), sn u g j = false → sn u g (j + d) = false
  | 0, _, h => h
  | d + 1, j, h => by
    show (sn u g (j + d) && _) = false
    rw [sn_mono d j h]
    rfl
theorem bs_wb {v : Vw} {x : Int32} (h : Wb v) : Wb (mS v 0 2 x) := h
theorem bs_w9 {v : Vw} {x : Int32} (h : W9 v) : W9 (mS v 0 2 x) := h
theorem bs_bs {v : Vw} {x y : Int32} : mS (mS v 0 2 x) 0 2 y = mS v 0 2 y := mS_mS
theorem bs_rd {v u : Vw} (h : ∀ x, mS v 0 2 x = mS u 0 2 x) {r i : Nat} (e : ¬ (r = 0 ∧ i = 2)) : v r i = u r i := by
  have := congrFun (congrFun (h 0) r) i
  rw [mS_ne e, mS_ne e] at this
  exact this
theorem c_allow {μ : Mm} {K : MV → Mm → Prop} {u : Vw} {g k6 : Nat} (hw : Wb u) (hk6 : k6 ≤ 6) (h6 : u 0 6 = nI k6) (hg : g < 8) (hq : ∀ x, mS (vS μ 13) 0 2 x = mS u 0 2 x)
    (hK : ∀ μ', AgX μ μ' → (∀ x, mS (vS μ' 13) 0 2 x = mS u 0 2 x) → K (mI (bI (sn u g k6))) μ') : s_X7_allow [mO 6 19, mO 7 13, mI (nI g)] μ K := by
  refine g_X7_allow ?_
  have lp : ∀ (d i : Nat) (μ' : Mm), i + d = k6 → sn u g i = true → AgX μ μ' → (∀ x, mS (vS μ' 13) 0 2 x = mS u 0 2 x) → Tot e_X7_allow K 2 [mO 6 19, mO 7 13, mI (nI g), mI (nI i)] [] μ' := by
    intro d
    induction d with
    | zero =>
      intro i μ' hi ht ha hq
      have e : i = k6 := by omega
      subst e
      refine g_X7_allow_2 ?_
      have e0 : μ' 19 0 = nI i := (bs_rd hq (r := 0) (i := 6) (by decide)).trans h6
      rw [e0, if_pos (Int32.le_refl _)]
      have hK := hK μ' ha hq
      rw [ht] at hK
      exact ⟨zb1, hK⟩
    | succ d ih =>
      intro i μ' hi ht ha hq
      refine g_X7_allow_2 ?_
      have e0 : μ' 19 0 = nI k6 := (bs_rd hq (r := 0) (i := 6) (by decide)).trans h6
      have e5 : μ' 20 i = u 5 i := (tr_at (n := 6) (f := μ' 20) (by omega)).symm.trans (bs_rd hq (r := 5) (i := i) (fun z => absurd z.1 (by decide)))
      have e6 : μ' 21 i = u 6 i := (tr_at (n := 6) (f := μ' 21) (by omega)).symm.trans (bs_rd hq (r := 6) (i := i) (fun z => absurd z.1 (by decide)))
      have e7 : μ' 22 i = u 7 i := (tr_at (n := 6) (f := μ' 22) (by omega)).symm.trans (bs_rd hq (r := 7) (i := i) (fun z => absurd z.1 (by decide)))
      rw [e0, if_neg (i_not_le_of_lt (nI_lt (by omega) (by omega)))]
      refine c_at (by omega) (by decide) ?_
      rw [vI_mI, show μ' (19 + 1) i = u 5 i from e5]
      have hs : sn u g (i + 1) = (sn u g i && (if u 5 i = nI g then decide (nI (LV (mS u 0 2 (u 7 i)) g) = u 6 i) else true)) := rfl
      rw [ht, Bool.true_and] at hs
      split
      · rename_i q
        rw [if_pos q] at hs
        refine c_at (by omega) (by decide) ?_
        rw [vI_mI, show μ' (19 + 3) i = u 7 i from e7]
        have ev : vS (mS μ' 13 1 (u 7 i)) 13 = mS u 0 2 (u 7 i) := by rw [vS_base]; exact hq _
        refine c_behind (by rw [ev]; exact bs_wb hw) hg ?_
        rw [ev]
        refine c_at (by omega) (by decide) ?_
        rw [vI_mI, vI_mI, show mS μ' 13 1 (u 7 i) (19 + 2) i = u 6 i from (congrFun (mS_c (by decide)) i).trans e6]
        have ha2 : AgX μ (mS μ' 13 1 (u 7 i)) := ha.st rfl
        have hq2 : ∀ x, mS (vS (mS μ' 13 1 (u 7 i)) 13) 0 2 x = mS u 0 2 x := fun x => by rw [ev, bs_bs]
        split
        · rename_i q2
          rw [decide_eq_true q2] at hs
          rw [nI_1]
          exact ih (i + 1) _ (by omega) hs ha2 hq2
        · rename_i q2
          rw [decide_eq_false q2] at hs
          have hK := hK _ ha2 hq2
          have := sn_mono (k6 - (i + 1)) (i + 1) hs
          rw [show i + 1 + (k6 - (i + 1)) = k6 by omega] at this
          rw [this] at hK
          exact ⟨zb0, hK⟩
      · rename_i q
        rw [if_neg q] at hs
        rw [nI_1]
        exact ih (i + 1) _ (by omega) hs ha hq
  exact lp k6 0 μ (by omega) rfl (AgX.rf μ) hq
/-- but for the reference's scratch and its base -/
def AgB (μ μ' : Mm) : Prop := ∀ c k, sMb c k = false → ¬ (c = 55 ∧ k = 2) → μ' c k = μ c k
theorem d_isSeen {μ : Mm} {K : MV → Mm → Prop} {g k6 : Nat} (hw : Wb (vM μ)) (h9 : W9 (vM μ)) (hk6 : k6 ≤ 6) (h6 : vM μ 0 6 = nI k6) (hg : g < 8)
    (hK : ∀ μ', AgM μ μ' → K (mI (bI (sn (vM μ) g k6))) μ') : s_X10_isSeen [mO 9 55, mI (nI g)] μ K := by
  refine g_X10_isSeen ?_
  generalize hu : vM μ = u at hw h9 h6 hK
  have lp : ∀ (d i : Nat) (μ' : Mm), i + d = k6 → AgB μ μ' → (∀ x, mS (vM μ') 0 2 x = mS u 0 2 x) → Tot e_X10_isSeen K 10 [mO 9 55, mI (nI g), mI (μ 55 2), mI (bI (sn u g i)), mI (nI i)] [] μ' := by
    intro d
    induction d with
    | zero =>
      intro i μ' hi ha hq
      have e : i = k6 := by omega
      subst e
      refine g_X10_isSeen_10 ?_
      have e0 : μ' 55 11 = nI i := (bs_rd hq (r := 0) (i := 6) (by decide)).trans h6
      rw [e0, if_pos (Int32.le_refl _)]
      refine ⟨zb_bI, hK _ (fun c k e => ?_)⟩
      by_cases e2 : c = 55 ∧ k = 2
      · rw [e2.1, e2.2, mS_eq]
      · rw [mS_ne e2]
        exact ha c k e e2
    | succ d ih =>
      intro i μ' hi ha hq
      refine g_X10_isSeen_10 ?_
      have e0 : μ' 55 11 = nI k6 := (bs_rd hq (r := 0) (i := 6) (by decide)).trans h6
      have e5 : μ' 61 (3 * i) = u 5 i := (tr_at (n := 6) (f := fun i => μ' 61 (3 * i)) (by omega)).symm.trans (bs_rd hq (r := 5) (i := i) (fun z => absurd z.1 (by decide)))
      have e6 : μ' 61 (3 * i + 1) = u 6 i := (tr_at (n := 6) (f := fun i => μ' 61 (3 * i + 1)) (by omega)).symm.trans (bs_rd hq (r := 6) (i := i) (fun z => absurd z.1 (by decide)))
      have e7 : μ' 61 (3 * i + 2) = u 7 i := (tr_at (n := 6) (f := fun i => μ' 61 (3 * i + 2)) (by omega)).symm.trans (bs_rd hq (r := 7) (i := i) (fun z => absurd z.1 (by decide)))
      have x3 : (3 : Int32) * nI i = nI (3 * i) := nI_mul 3 i
      have x4 : nI (3 * i) + 2 = nI (3 * i + 2) := nI_add (3 * i) 2
      rw [e0, if_neg (i_not_le_of_lt (nI_lt (by omega) (by omega))), x3, x4, nI_1, nI_1, nI_clamp (by omega), nI_clamp (by omega), nI_clamp (by omega), e5, e7]
      refine ⟨vi_nI (by omega) (by decide), ?_⟩
      have hs : sn u g (i + 1) = (sn u g i && (if u 5 i = nI g then decide (nI (LV (mS u 0 2 (u 7 i)) g) = u 6 i) else true)) := rfl
      have ev : vM (mS μ' 55 2 (u 7 i)) = mS u 0 2 (u 7 i) := by rw [vM_base]; exact hq _
      have ha2 : AgB μ (mS μ' 55 2 (u 7 i)) := fun c k e hne => by rw [mS_ne hne]; exact ha c k e hne
      have hq2 : ∀ x, mS (vM (mS μ' 55 2 (u 7 i))) 0 2 x = mS u 0 2 x := fun x => by rw [ev, bs_bs]
      split
      · rename_i q
        rw [if_pos q] at hs
        refine ⟨vi_nI (by omega) (by decide), ?_⟩
        rw [ite_b]
        cases ht : sn u g i with
        | false =>
          rw [ht, Bool.false_and] at hs
          rw [cond_false]
          have := ih (i + 1) _ (by omega) ha2 hq2
          rw [hs] at this
          exact this
        | true =>
          rw [ht, Bool.true_and] at hs
          rw [cond_true]
          refine d_leavesAt (by rw [ev]; exact bs_wb hw) (by rw [ev]; exact bs_w9 h9) hg fun μ1 ha1 _ => ?_
          rw [ev, vI_mI]
          refine ⟨vi_nI (by omega) (by decide), ?_⟩
          have e61 : μ1 61 (3 * i + 1) = u 6 i := by rw [ha1 61 _ rfl, mS_c (by decide)]; exact e6
          have ha3 : AgB μ μ1 := fun c k e hne => by rw [ha1 c k e]; exact ha2 c k e hne
          have hq3 : ∀ x, mS (vM μ1) 0 2 x = mS u 0 2 x := fun x => by rw [ha1.vM]; exact hq2 x
          rw [e61]
          have := ih (i + 1) _ (by omega) ha3 hq3
          split
          · rename_i q2
            rw [hs, decide_eq_true q2] at this
            exact this
          · rename_i q2
            rw [hs, decide_eq_false q2] at this
            exact this
      · rename_i q
        rw [if_neg q, Bool.and_true] at hs
        have := ih (i + 1) _ (by omega) ha hq
        rw [hs] at this
        exact this
  exact lp k6 0 μ (by omega) (fun _ _ _ _ => rfl) (fun x => by rw [hu])
