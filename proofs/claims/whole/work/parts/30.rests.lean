/-! ===== two houses: the fares that rest ===== -/
def bv (v : Vw) (x y : Int32) : Vw := mS (mS v 0 2 x) 0 5 y
theorem bv_bv {v : Vw} {x y x' y' : Int32} : bv (bv v x y) x' y' = bv v x' y' := by
  unfold bv
  rw [mS_comm (c := 0) (k := 5) (c' := 0) (k' := 2) (by decide), mS_mS, mS_mS]
theorem bv_wb {v : Vw} {x y : Int32} (h : Wb v) : Wb (bv v x y) := h
theorem bv_w9 {v : Vw} {x y : Int32} (h : W9 v) : W9 (bv v x y) := h
def RB (v : Vw) (s k : Nat) : Int32 := HS (bv v (nI (k / 10)) (nI (k % 10))) s
def rt (v : Vw) (k : Nat) : Nat → Bool
  | 0 => true
  | j + 1 => rt v k j && (decide (RB v 0 (j * 10 + k % 10) ≤ RB v 0 k) && decide (RB v 1 (k / 10 * 10 + j) ≤ RB v 1 k))
theorem rt_mono {v : Vw} {k : Nat} : ∀ (d j : Nat), rt v k j = false → rt v k (j + d) = false
  | 0, _, h => h
  | d + 1, j, h => by
    show (rt v k (j + d) && _) = false
    rw [rt_mono d j h]
    rfl
def rs (v : Vw) (a : Int32) : Nat → Nat → Int32 → Int32
  | 0, _, l => if a = -1 then l else -6
  | d + 1, k, l => bif rt v k 10 then (if l = a then nI k else rs v a d (k + 1) (l + 1)) else rs v a d (k + 1) l
theorem l10 (j t : Nat) : nI j * 10 + nI t = nI (j * 10 + t) := by
  rw [show (10 : Int32) = nI 10 from rfl, nI_mul, nI_add]
theorem c_bothRest {μ : Mm} {K : MV → Mm → Prop} {v : Vw} {k : Nat} (hk : k < 100) (h1 : ∀ i, i < 100 → μ 51 i = RB v 0 i) (h2 : ∀ i, i < 100 → μ 52 i = RB v 1 i) (hK : K (mI (bI (rt v k 10))) μ) : s_X1_bothRest [mO 1 50, mI (nI k)] μ K := by
  refine g_X1_bothRest ⟨by decide, by decide, ?_⟩
  obtain ⟨d1, d2⟩ := dm10 k (by omega)
  rw [d2, d1]
  have lp : ∀ (d j : Nat) (z5 z6 : MV), j + d = 10 → rt v k j = true → Tot e_X1_bothRest K 13 [mO 1 50, mI (nI k), mI (nI (k / 10)), mI (nI (k % 10)), mI (nI j), z5, z6] [] μ := by
    intro d
    induction d with
    | zero =>
      intro j z5 z6 hj ht
      have e : j = 10 := by omega
      subst e
      refine g_X1_bothRest_13 ?_
      rw [if_pos (show (10 : Int32) ≤ nI 10 by decide)]
      rw [ht] at hK
      exact ⟨zb1, hK⟩
    | succ d ih =>
      intro j z5 z6 hj ht
      refine g_X1_bothRest_13 ?_
      rw [if_neg (show ¬ (10 : Int32) ≤ nI j from nI_ge (b := 10) (by omega) (by omega)), l10]
      refine c_at (by omega) (by decide) (c_at hk (by decide) ?_)
      rw [vI_mI, vI_mI, h1 _ (by omega), h1 _ hk]
      have hs : rt v k (j + 1) = (rt v k j && (decide (RB v 0 (j * 10 + k % 10) ≤ RB v 0 k) && decide (RB v 1 (k / 10 * 10 + j) ≤ RB v 1 k))) := rfl
      rw [ht, Bool.true_and] at hs
      have no : rt v k (j + 1) = false → K (mI 0) μ := fun e => by
        have := rt_mono (v := v) (k := k) (10 - (j + 1)) (j + 1) e
        rw [show j + 1 + (10 - (j + 1)) = 10 by omega] at this
        rw [this] at hK
        exact hK
      split
      · rename_i q
        rw [decide_eq_true q, Bool.true_and] at hs
        rw [l10]
        refine c_at (by omega) (by decide) (c_at hk (by decide) ?_)
        rw [vI_mI, vI_mI, h2 _ (by omega), h2 _ hk]
        split
        · rename_i q2
          rw [decide_eq_true q2] at hs
          rw [nI_1]
          exact ih (j + 1) _ _ (by omega) hs
        · rename_i q2
          rw [decide_eq_false q2] at hs
          exact ⟨zb0, no hs⟩
      · rename_i q
        rw [decide_eq_false q, Bool.false_and] at hs
        rw [l10]
        refine c_at (by omega) (by decide) (c_at hk (by decide) ?_)
        split
        · exact ⟨zb0, no hs⟩
        · exact ⟨zb0, no hs⟩
  exact lp 10 0 mU mU rfl rfl
theorem c_rests {μ : Mm} {K : MV → Mm → Prop} {v : Vw} {a : Int32} (hw : Wb v) (hv : vS μ 13 = v) (hK : ∀ μ', AgX μ μ' → K (mI (rs v a 100 0 0)) μ') : s_X1_restingBases [mO 1 50, mO 7 13, mI a] μ K := by
  refine g_X1_restingBases ?_
  have scan : ∀ (μ' : Mm), AgX μ μ' → (∀ i, i < 100 → μ' 51 i = RB v 0 i) → (∀ i, i < 100 → μ' 52 i = RB v 1 i) → ∀ (d k : Nat) (l : Int32), k + d = 100 → rs v a d k l = rs v a 100 0 0 → Tot e_X1_restingBases K 64 [mO 1 50, mO 7 13, mI a, mI l, mI (nI k)] [] μ' := by
    intro μ' ha h1 h2 d
    induction d with
    | zero =>
      intro k l hk hr
      have e : k = 100 := by omega
      subst e
      refine g_X1_restingBases_64 ?_
      rw [if_pos (show (100 : Int32) ≤ nI 100 by decide)]
      have hr' : (if a = -1 then l else -6) = rs v a 100 0 0 := hr
      have hK := hK μ' ha
      rw [← hr'] at hK
      split
      · rename_i q; rw [if_pos q] at hK; exact hK
      · rename_i q; rw [if_neg q] at hK; exact hK
    | succ d ih =>
      intro k l hk hr
      have hr' : (bif rt v k 10 then (if l = a then nI k else rs v a d (k + 1) (l + 1)) else rs v a d (k + 1) l) = rs v a 100 0 0 := hr
      refine g_X1_restingBases_64 ?_
      rw [if_neg (show ¬ (100 : Int32) ≤ nI k from nI_ge (b := 100) (by omega) (by omega))]
      refine c_bothRest (v := v) (by omega) h1 h2 ?_
      rw [vI_mI, ite_b, nI_1]
      cases ht : rt v k 10 with
      | false =>
        rw [ht, cond_false] at hr'
        exact ih (k + 1) l (by omega) hr'
      | true =>
        rw [ht, cond_true] at hr'
        rw [cond_true]
        split
        · rename_i q
          rw [if_pos q] at hr'
          have hK := hK μ' ha
          rw [← hr'] at hK
          exact hK
        · rename_i q
          rw [if_neg q] at hr'
          exact ih (k + 1) (l + 1) (by omega) hr'
  have lp : ∀ (d k : Nat) (μ' : Mm), k + d = 100 → AgX μ μ' → (∀ x y, bv (vS μ' 13) x y = bv v x y) → (∀ i, i < k → μ' 51 i = RB v 0 i) → (∀ i, i < k → μ' 52 i = RB v 1 i) → Tot e_X1_restingBases K 2 [mO 1 50, mO 7 13, mI a, mI (nI k), mU] [] μ' := by
    intro d
    induction d with
    | zero =>
      intro k μ' hk ha hq h1 h2
      have e : k = 100 := by omega
      subst e
      refine g_X1_restingBases_2 ?_
      rw [if_pos (show (100 : Int32) ≤ nI 100 by decide)]
      exact scan μ' ha h1 h2 100 0 0 rfl rfl
    | succ d ih =>
      intro k μ' hk ha hq h1 h2
      refine g_X1_restingBases_2 ?_
      rw [if_neg (show ¬ (100 : Int32) ≤ nI k from nI_ge (b := 100) (by omega) (by omega))]
      refine ⟨by decide, by decide, ?_⟩
      obtain ⟨d1, d2⟩ := dm10 k (by omega)
      rw [d2, d1]
      have ev : vS (mS (mS μ' 13 1 (nI (k / 10))) 13 4 (nI (k % 10))) 13 = bv v (nI (k / 10)) (nI (k % 10)) := by
        rw [vS_there, vS_base]
        exact hq _ _
      refine c_sendAll (by rw [ev]; exact bv_wb hw) (fun d hd => by omega) fun μ1 hc e2 e3 => ?_
      rw [ev] at e2 e3
      rw [e2]
      refine c_put (by omega) (by decide) ?_
      rw [mS_c (by decide), e3]
      refine c_put (by omega) (by decide) ?_
      rw [nI_1]
      have hx : AgX μ μ1 := fun c j e => by
        rw [hc c (fun z => by subst z; cases e), mS_c (fun z => by subst z; cases e), mS_c (fun z => by subst z; cases e)]
        exact ha c j e
      have r2 : HS (bv v (nI (k / 10)) (nI (k % 10))) 0 = RB v 0 k := rfl
      have r3 : HS (bv v (nI (k / 10)) (nI (k % 10))) 1 = RB v 1 k := rfl
      rw [r2, r3]
      refine ih (k + 1) _ (by omega) ((hx.st rfl).st rfl) (fun x y => ?_) (fun i hi => ?_) (fun i hi => ?_)
      · have e13 : vS (mS (mS μ1 51 k (RB v 0 k)) 52 k (RB v 1 k)) 13 = vS (mS (mS μ' 13 1 (nI (k / 10))) 13 4 (nI (k % 10))) 13 := vS_congr fun d hd => by
          rw [mS_c (by omega), mS_c (by omega), hc _ (by omega)]
        rw [e13, ev, bv_bv]
      · rw [mS_c (by decide)]
        by_cases e : i = k
        · subst e; rw [mS_eq]
        · rw [mS_k e, hc 51 (by decide), mS_c (by decide), mS_c (by decide)]
          exact h1 i (by omega)
      · by_cases e : i = k
        · subst e; rw [mS_eq]
        · rw [mS_k e, mS_c (by decide), hc 52 (by decide), mS_c (by decide), mS_c (by decide)]
          exact h2 i (by omega)
  exact lp 100 0 μ rfl (AgX.rf μ) (fun x y => by rw [hv]) (fun i hi => absurd hi (Nat.not_lt_zero i)) (fun i hi => absurd hi (Nat.not_lt_zero i))
/-- but for the reference's scratch and the two bases -/
def Ag2 (μ μ' : Mm) : Prop := ∀ c k, sMb c k = false → ¬ (c = 55 ∧ (k = 2 ∨ k = 5)) → μ' c k = μ c k
theorem d_rests {μ : Mm} {K : MV → Mm → Prop} {a : Int32} (hw : Wb (vM μ)) (h9 : W9 (vM μ)) (hK : ∀ μ', AgM μ μ' → K (mI (rs (vM μ) a 100 0 0)) μ') : s_X10_rests [mO 9 55, mI a] μ K := by
  refine g_X10_rests ?_
  generalize hv : vM μ = v at hw h9 hK
  have row : ∀ (μ' : Mm), AgM μ μ' → (∀ i, i < 100 → μ' 68 (2 * i) = RB v 0 i) → (∀ i, i < 100 → μ' 68 (2 * i + 1) = RB v 1 i) → ∀ (k : Nat) (l : Int32), k < 100 →
      (∀ z6 z7, rt v k 10 = false → Tot e_X10_rests K 90 [mO 9 55, mI a, mI (μ 55 2), mI (μ 55 5), mI l, mI (nI (k + 1)), z6, z7] [] μ') →
      (rt v k 10 = true → l = a → K (mI (nI k)) μ') →
      (∀ z6 z7, rt v k 10 = true → ¬ l = a → Tot e_X10_rests K 90 [mO 9 55, mI a, mI (μ 55 2), mI (μ 55 5), mI (l + 1), mI (nI (k + 1)), z6, z7] [] μ') →
      ∀ (d j : Nat), j + d = 10 → Tot e_X10_rests K 103 [mO 9 55, mI a, mI (μ 55 2), mI (μ 55 5), mI l, mI (nI k), mI (bI (rt v k j)), mI (nI j)] [] μ' := by
    intro μ' ha h1 h2 k l hk hA hB hC d
    obtain ⟨d1, d2⟩ := dm10 k (by omega)
    have d3 : nI k - nI (k % 10) = nI (k / 10 * 10) := by
      rw [nI_sub (Nat.mod_le k 10)]
      congr 1
      omega
    induction d with
    | zero =>
      intro j hj
      have e : j = 10 := by omega
      subst e
      refine g_X10_rests_103 ?_
      rw [if_pos (show (10 : Int32) ≤ nI 10 by decide), ite_b]
      cases ht : rt v k 10 with
      | false =>
        rw [cond_false, nI_1]
        exact hA _ _ ht
      | true =>
        rw [cond_true]
        split
        · rename_i q
          exact hB ht q
        · rename_i q
          rw [nI_1]
          exact hC _ _ ht q
    | succ d ih =>
      intro j hj
      refine g_X10_rests_103 ?_
      rw [if_neg (show ¬ (10 : Int32) ≤ nI j from nI_ge (b := 10) (by omega) (by omega)), ite_b]
      have hs : rt v k (j + 1) = (rt v k j && (decide (RB v 0 (j * 10 + k % 10) ≤ RB v 0 k) && decide (RB v 1 (k / 10 * 10 + j) ≤ RB v 1 k))) := rfl
      have ih := ih (j + 1) (by omega)
      have z0 : (0 : Int32) = 0 := rfl
      have z1 : ¬ (1 : Int32) = 0 := by decide
      rw [nI_1]
      cases ht : rt v k j with
      | false =>
        rw [cond_false, if_pos z0]
        rw [hs, ht, Bool.false_and] at ih
        exact ih
      | true =>
        rw [cond_true]
        rw [ht, Bool.true_and] at hs
        have x1 : (2 : Int32) * ((10 : Int32) * nI j + (nI k - nI k / 10 * 10)) = nI (2 * (j * 10 + k % 10)) := by
          rw [d2, show (10 : Int32) * nI j = nI 10 * nI j from rfl, nI_mul, nI_add, show (2 : Int32) = nI 2 from rfl, nI_mul, Nat.mul_comm 10 j]
        have x2 : (2 : Int32) * nI k = nI (2 * k) := by rw [show (2 : Int32) = nI 2 from rfl, nI_mul]
        have x3 : ((2 : Int32) * ((nI k - (nI k - nI k / 10 * 10)) + nI j)) + 1 = nI (2 * (k / 10 * 10 + j) + 1) := by
          rw [d2, d3, nI_add, show (2 : Int32) = nI 2 from rfl, nI_mul, nI_1]
        have x4 : ((2 : Int32) * nI k) + 1 = nI (2 * k + 1) := by rw [x2, nI_1]
        rw [x1, x4, x3, x2]
        rw [nI_clamp (by omega), nI_clamp (by omega), nI_clamp (by omega), nI_clamp (by omega)]
        rw [h1 (j * 10 + k % 10) (by omega), h1 k hk, h2 (k / 10 * 10 + j) (by omega), h2 k hk]
        refine ⟨by decide, vi_nI (by omega) (by decide), vi_nI (by omega) (by decide), ?_⟩
        split
        · rename_i q
          rw [decide_eq_false (i_not_le_of_lt q), Bool.false_and] at hs
          rw [hs] at ih
          exact ih
        · rename_i q
          rw [decide_eq_true (i_le_of_not_lt q), Bool.true_and] at hs
          refine ⟨by decide, vi_nI (by omega) (by decide), vi_nI (by omega) (by decide), ?_⟩
          split
          · rename_i q2
            rw [decide_eq_false (i_not_le_of_lt q2)] at hs
            rw [hs] at ih
            exact ih
          · rename_i q2
            rw [decide_eq_true (i_le_of_not_lt q2)] at hs
            rw [hs] at ih
            exact ih
  have scan : ∀ (μ' : Mm), AgM μ μ' → (∀ i, i < 100 → μ' 68 (2 * i) = RB v 0 i) → (∀ i, i < 100 → μ' 68 (2 * i + 1) = RB v 1 i) → ∀ (d k : Nat) (l : Int32) (z6 z7 : MV), k + d = 100 → rs v a d k l = rs v a 100 0 0 → Tot e_X10_rests K 90 [mO 9 55, mI a, mI (μ 55 2), mI (μ 55 5), mI l, mI (nI k), z6, z7] [] μ' := by
    intro μ' ha h1 h2 d
    induction d with
    | zero =>
      intro k l z6 z7 hk hr
      have e : k = 100 := by omega
      subst e
      refine g_X10_rests_90 ?_
      rw [if_pos (show (100 : Int32) ≤ nI 100 by decide)]
      have hr' : (if a = -1 then l else -6) = rs v a 100 0 0 := hr
      have hK := hK μ' ha
      rw [← hr'] at hK
      split
      · rename_i q; rw [if_pos q] at hK; exact hK
      · rename_i q; rw [if_neg q] at hK; exact hK
    | succ d ih =>
      intro k l z6 z7 hk hr
      have hr' : (bif rt v k 10 then (if l = a then nI k else rs v a d (k + 1) (l + 1)) else rs v a d (k + 1) l) = rs v a 100 0 0 := hr
      refine g_X10_rests_90 ?_
      rw [if_neg (show ¬ (100 : Int32) ≤ nI k from nI_ge (b := 100) (by omega) (by omega))]
      refine row μ' ha h1 h2 k l (by omega) (fun y6 y7 ht => ?_) (fun ht q => ?_) (fun y6 y7 ht q => ?_) 10 0 rfl
      · rw [ht, cond_false] at hr'
        exact ih (k + 1) l _ _ (by omega) hr'
      · rw [ht, cond_true, if_pos q] at hr'
        have hK := hK μ' ha
        rw [← hr'] at hK
        exact hK
      · rw [ht, cond_true, if_neg q] at hr'
        exact ih (k + 1) (l + 1) _ _ (by omega) hr'
  have lp : ∀ (d k : Nat) (μ' : Mm), k + d = 100 → Ag2 μ μ' → (∀ x y, bv (vM μ') x y = bv v x y) → W9 (vM μ') → (∀ i, i < k → μ' 68 (2 * i) = RB v 0 i) → (∀ i, i < k → μ' 68 (2 * i + 1) = RB v 1 i) → Tot e_X10_rests K 13 [mO 9 55, mI a, mI (μ 55 2), mI (μ 55 5), mI (nI k), mU, mU, mU] [] μ' := by
    intro d
    induction d with
    | zero =>
      intro k μ' hk ha hq h9 h1 h2
      have e : k = 100 := by omega
      subst e
      refine g_X10_rests_13 ?_
      rw [if_pos (show (100 : Int32) ≤ nI 100 by decide)]
      refine scan _ (fun c k e => ?_) (fun i hi => ?_) (fun i hi => ?_) 100 0 0 _ _ rfl rfl
      · by_cases e5 : c = 55 ∧ k = 5
        · rw [e5.1, e5.2, mS_eq]
        · rw [mS_ne e5]
          by_cases e2 : c = 55 ∧ k = 2
          · rw [e2.1, e2.2, mS_eq]
          · rw [mS_ne e2]
            exact ha c k e (fun z => z.2.elim (fun y => e2 ⟨z.1, y⟩) (fun y => e5 ⟨z.1, y⟩))
      · rw [mS_c (by decide), mS_c (by decide)]; exact h1 i hi
      · rw [mS_c (by decide), mS_c (by decide)]; exact h2 i hi
    | succ d ih =>
      intro k μ' hk ha hq h9 h1 h2
      refine g_X10_rests_13 ?_
      rw [if_neg (show ¬ (100 : Int32) ≤ nI k from nI_ge (b := 100) (by omega) (by omega))]
      refine ⟨by decide, by decide, ?_⟩
      obtain ⟨d1, d2⟩ := dm10 k (by omega)
      rw [d2, d1]
      have ev : vM (mS (mS μ' 55 2 (nI (k / 10))) 55 5 (nI (k % 10))) = bv v (nI (k / 10)) (nI (k % 10)) := by
        rw [vM_there, vM_base]
        exact hq _ _
      have w9 : W9 (bv v (nI (k / 10)) (nI (k % 10))) := by
        rw [← hq]
        exact bv_w9 h9
      refine d_takenBy (s := 0) ⟨fun _ => rfl, fun _ => rfl⟩ (by rw [ev]; exact bv_wb hw) (by rw [ev]; exact w9) fun μ1 ha1 hc1 => ?_
      have x2 : (2 : Int32) * nI k = nI (2 * k) := by rw [show (2 : Int32) = nI 2 from rfl, nI_mul]
      rw [ev, vI_mI, x2, nI_clamp (by omega)]
      refine ⟨vi_nI (by omega) (by decide), ?_⟩
      have ha2 : AgM (mS (mS μ' 55 2 (nI (k / 10))) 55 5 (nI (k % 10))) (mS μ1 68 (2 * k) (HS (bv v (nI (k / 10)) (nI (k % 10))) 0)) := ha1.st rfl
      refine d_takenBy (s := 1) ⟨fun z => absurd z (by decide), fun z => absurd z (by decide)⟩ (by rw [ha2.vM, ev]; exact bv_wb hw) (by rw [ha2.vM, ev]; exact w9) fun μ2 ha3 hc3 => ?_
      rw [ha2.vM, ev, vI_mI, nI_1, nI_1, nI_clamp (by omega)]
      refine ⟨vi_nI (by omega) (by decide), ?_⟩
      have ha4 : AgM (mS (mS μ' 55 2 (nI (k / 10))) 55 5 (nI (k % 10))) (mS μ2 68 (2 * k + 1) (HS (bv v (nI (k / 10)) (nI (k % 10))) 1)) := (ha2.tr ha3).st rfl
      have e68 : μ2 68 = mS μ1 68 (2 * k) (HS (bv v (nI (k / 10)) (nI (k % 10))) 0) 68 := hc3 68 (by decide)
      have e68' : μ1 68 = μ' 68 := by rw [hc1 68 (by decide), mS_c (by decide), mS_c (by decide)]
      refine ih (k + 1) _ (by omega) (fun c j e hne => ?_) (fun x y => ?_) ?_ (fun i hi => ?_) (fun i hi => ?_)
      · rw [ha4 c j e, mS_ne (fun z => hne ⟨z.1, Or.inr z.2⟩), mS_ne (fun z => hne ⟨z.1, Or.inl z.2⟩)]
        exact ha c j e hne
      · rw [ha4.vM, ev, bv_bv]
      · rw [ha4.vM, ev]; exact w9
      · rw [mS_k (by omega), e68]
        by_cases e : i = k
        · subst e; rw [mS_eq]; rfl
        · rw [mS_k (by omega), e68']
          exact h1 i (by omega)
      · by_cases e : i = k
        · subst e; rw [mS_eq]; rfl
        · rw [mS_k (by omega), e68, mS_k (by omega), e68']
          exact h2 i (by omega)
  exact lp 100 0 μ rfl (fun _ _ _ _ => rfl) (fun x y => by rw [hv]) (by rw [hv]; exact h9) (fun i hi => absurd hi (Nat.not_lt_zero i)) (fun i hi => absurd hi (Nat.not_lt_zero i))
theorem call_rests {μ : Mm} (r : Rl μ) (a : Int32) : s_X9_rests [mO 8 0, mI a] μ (fun v1 μ1 => s_X10_rests [mO 9 55, mI a] μ1 (fun v2 μ2 => Gd v1 v2 μ2)) := by
  refine g_X9_rests (c_tried fun μ1 ha1 hv1 _ => ?_)
  refine c_rests (v := vM μ) r.wb (by rw [hv1, r.v]) fun μ2 ha2 => ?_
  have r3 : Rl μ2 := ha2.Rl (ha1.Rl r)
  refine d_rests r3.wb r3.w9 fun μ3 ha3 => ⟨?_, ha3.Rl r3⟩
  rw [ha2.vM, ha1.vM]
  rfl
