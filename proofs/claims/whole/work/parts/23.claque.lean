/-! ===== CLAQUE ===== -/
def Cl (a : Nat) (x : Int32) (f : Nat → Int32) (i : Nat) : Nat → Int32 := fun k => if k % 6 = a ∧ k / 6 < i then f k + x else f k
theorem Cl_0 {a : Nat} {x : Int32} {f : Nat → Int32} : Cl a x f 0 = f := by
  funext k
  unfold Cl
  rw [if_neg (by omega)]
theorem Cl_at {a i : Nat} {x : Int32} {f : Nat → Int32} (ha : a < 6) : Cl a x f (i + 1) (6 * i + a) = f (6 * i + a) + x := by
  unfold Cl
  rw [if_pos (by omega)]
theorem Cl_get {a i : Nat} {x : Int32} {f : Nat → Int32} (ha : a < 6) : Cl a x f i (6 * i + a) = f (6 * i + a) := by
  unfold Cl
  rw [if_neg (by omega)]
theorem Cl_ne {a i k : Nat} {x : Int32} {f : Nat → Int32} (ha : a < 6) (h : k ≠ 6 * i + a) : Cl a x f (i + 1) k = Cl a x f i k := by
  unfold Cl
  by_cases e : k % 6 = a ∧ k / 6 < i
  · rw [if_pos e, if_pos (by omega)]
  · rw [if_neg e, if_neg (by omega)]
theorem Cl_back {a : Nat} {x : Int32} {f : Nat → Int32} : Cl a (-x) (Cl a x f 8) 8 = f := by
  funext k
  unfold Cl
  by_cases e : k % 6 = a ∧ k / 6 < 8
  · rw [if_pos e, if_pos e]
    grind
  · rw [if_neg e, if_neg e]
theorem c_weep {μ : Mm} {K : MV → Mm → Prop} {c a : Nat} {x : Int32} (ha : a < 6) (hK : K mU (mW μ (c + 2) (Cl a x (μ (c + 2)) 8))) : s_X4_weepAt [mO 7 c, mI (nI a), mI x] μ K := by
  refine g_X4_weepAt ?_
  have lp : ∀ (d i : Nat), i + d = 8 → Tot e_X4_weepAt K 2 [mO 7 c, mI (nI a), mI x, mI (nI i)] [] (mW μ (c + 2) (Cl a x (μ (c + 2)) i)) := by
    intro d
    induction d with
    | zero =>
      intro i hi
      have e : i = 8 := by omega
      subst e
      refine g_X4_weepAt_2 ?_
      rw [if_pos (by decide)]
      exact hK
    | succ d ih =>
      intro i hi
      refine g_X4_weepAt_2 ?_
      rw [if_neg (show ¬ (8 : Int32) ≤ nI i from nI_ge (b := 8) (by omega) (by omega))]
      refine g_X8_worthTo ?_
      rw [lit6']
      refine c_at (by omega) (by decide) (g_X8_putWorth ?_)
      rw [lit6', mW_eq, Cl_get ha, vI_mI, vI_mI]
      refine c_put (by omega) (by decide) ?_
      have := ih (i + 1) (by omega)
      rw [← nI_1] at this
      rw [mW_st (f' := Cl a x (μ (c + 2)) (i + 1)) (Cl_at ha) (fun k hk => Cl_ne ha hk)]
      exact this
  have := lp 8 0 rfl
  rw [Cl_0, mW_id rfl] at this
  exact this
theorem d_raise {μ : Mm} {K : MV → Mm → Prop} {a : Nat} {x : Int32} (ha : a < 6) (hK : K mU (mW μ 56 (Cl a x (μ 56) 8))) : s_X10_raise [mO 9 55, mI (nI a), mI x] μ K := by
  refine g_X10_raise ?_
  have lp : ∀ (d i : Nat), i + d = 8 → Tot e_X10_raise K 2 [mO 9 55, mI (nI a), mI x, mI (nI i)] [] (mW μ 56 (Cl a x (μ 56) i)) := by
    intro d
    induction d with
    | zero =>
      intro i hi
      have e : i = 8 := by omega
      subst e
      refine g_X10_raise_2 ?_
      rw [if_pos (by decide)]
      exact hK
    | succ d ih =>
      intro i hi
      refine g_X10_raise_2 ?_
      have hv : vi (nI (6 * i + a)) 48 := vi_nI (by omega) (by decide)
      rw [if_neg (show ¬ (8 : Int32) ≤ nI i from nI_ge (b := 8) (by omega) (by omega)), lit6, nI_clamp (by omega), mW_eq, Cl_get ha]
      refine ⟨hv, hv, ?_⟩
      have := ih (i + 1) (by omega)
      rw [← nI_1] at this
      rw [mW_st (f' := Cl a x (μ 56) (i + 1)) (Cl_at ha) (fun k hk => Cl_ne ha hk)]
      exact this
  have := lp 8 0 rfl
  rw [Cl_0, mW_id rfl] at this
  exact this
/-- a view with one act worth more to all -/
def clv (v : Vw) (a : Nat) (x : Int32) : Vw := fun r => if r = 1 then tr 48 (Cl a x (v 1) 8) else v r
theorem Cl_tr {a : Nat} {x : Int32} {f : Nat → Int32} : tr 48 (Cl a x f 8) = tr 48 (Cl a x (tr 48 f) 8) := tr_eq fun i hi => by
  unfold Cl
  rw [tr_at hi]
theorem vS_cl {μ : Mm} {c a : Nat} {x : Int32} : vS (mW μ (c + 2) (Cl a x (μ (c + 2)) 8)) c = clv (vS μ c) a x := by
  funext r i
  by_cases e : r = 1
  · subst e
    show tr 48 (mW μ (c + 2) (Cl a x (μ (c + 2)) 8) (c + 2)) i = tr 48 (Cl a x (tr 48 (μ (c + 2))) 8) i
    rw [mW_eq, Cl_tr]
  · unfold clv
    rw [if_neg e]
    match r with
    | 0 =>
      have h0 : mW μ (c + 2) (Cl a x (μ (c + 2)) 8) c = μ c := mW_c (by omega)
      have h6 : mW μ (c + 2) (Cl a x (μ (c + 2)) 8) (c + 6) = μ (c + 6) := mW_c (by omega)
      unfold vS
      simp only [h0, h6]
    | 1 => exact absurd rfl e
    | 2 => show tr 6 (mW μ (c + 2) _ (c + 1)) i = tr 6 (μ (c + 1)) i; rw [mW_c (by omega)]
    | 3 => show tr 6 (mW μ (c + 2) _ (c + 3)) i = tr 6 (μ (c + 3)) i; rw [mW_c (by omega)]
    | 4 => show tr 8 (mW μ (c + 2) _ (c + 5)) i = tr 8 (μ (c + 5)) i; rw [mW_c (by omega)]
    | 5 => show tr 6 (mW μ (c + 2) _ (c + 7)) i = tr 6 (μ (c + 7)) i; rw [mW_c (by omega)]
    | 6 => show tr 6 (mW μ (c + 2) _ (c + 8)) i = tr 6 (μ (c + 8)) i; rw [mW_c (by omega)]
    | 7 => show tr 6 (mW μ (c + 2) _ (c + 9)) i = tr 6 (μ (c + 9)) i; rw [mW_c (by omega)]
    | r + 8 => rfl
theorem vM_cl {μ : Mm} {a : Nat} {x : Int32} : vM (mW μ 56 (Cl a x (μ 56) 8)) = clv (vM μ) a x := by
  have h55 : mW μ 56 (Cl a x (μ 56) 8) 55 = μ 55 := mW_c (by decide)
  have h57 : mW μ 56 (Cl a x (μ 56) 8) 57 = μ 57 := mW_c (by decide)
  have h59 : mW μ 56 (Cl a x (μ 56) 8) 59 = μ 59 := mW_c (by decide)
  have h60 : mW μ 56 (Cl a x (μ 56) 8) 60 = μ 60 := mW_c (by decide)
  have h61 : mW μ 56 (Cl a x (μ 56) 8) 61 = μ 61 := mW_c (by decide)
  funext r
  by_cases e : r = 1
  · subst e
    show tr 48 (mW μ 56 (Cl a x (μ 56) 8) 56) = tr 48 (Cl a x (tr 48 (μ 56)) 8)
    rw [mW_eq, Cl_tr]
  · unfold clv
    rw [if_neg e]
    match r with
    | 0 => unfold vM; simp only [h55]
    | 1 => exact absurd rfl e
    | 2 => unfold vM; simp only [h57]
    | 3 => unfold vM; simp only [h59]
    | 4 => unfold vM; simp only [h60]
    | 5 => unfold vM; simp only [h61]
    | 6 => unfold vM; simp only [h61]
    | 7 => unfold vM; simp only [h61]
    | r + 8 => rfl
def CT (v : Vw) (x : Int32) (a : Nat) : Int32 := TK (clv v a x)
theorem clv_wb {v : Vw} {a : Nat} {x : Int32} (h : Wb v) : Wb (clv v a x) := h
theorem c_claque {μ : Mm} {K : MV → Mm → Prop} {v : Vw} {x w : Int32} (hw : Wb v) (hv : vS μ 13 = v) (hK : K (mI (if w = 0 then (amx (CT v x) (-1) 0 (nA v)).2 else (amx (CT v x) (-1) 0 (nA v)).1)) μ) : s_X4_actForClaque [mO 7 13, mI x, mI w] μ K := by
  refine g_X4_actForClaque ?_
  have hn : μ 13 0 = nI (nA v) := by rw [← hv] at hw ⊢; exact hw.1.2.2
  have h6 := hw.1.2.1
  have lp : ∀ (d k : Nat) (z : MV), k + d = nA v → Tot e_X4_actForClaque K 8 [mO 7 13, mI x, mI w, mI (amx (CT v x) (-1) 0 k).1, mI (amx (CT v x) (-1) 0 k).2, mI (nI k), z] [] μ := by
    intro d
    induction d with
    | zero =>
      intro k z hk
      have e : k = nA v := by omega
      refine g_X4_actForClaque_8 ?_
      rw [hn, if_pos (by rw [e]; exact nI_le (Nat.le_refl _) (by omega)), e]
      split
      · rename_i q; rw [if_pos q] at hK; exact hK
      · rename_i q; rw [if_neg q] at hK; exact hK
    | succ d ih =>
      intro k z hk
      refine g_X4_actForClaque_8 ?_
      rw [hn, if_neg (nI_ge (by omega) (by omega))]
      refine c_weep (c := 13) (by omega) ?_
      have ev : vS (mW μ (13 + 2) (Cl k x (μ (13 + 2)) 8)) 13 = clv v k x := by rw [vS_cl, hv]
      refine c_allPay (by rw [ev]; exact clv_wb hw) ?_
      refine c_weep (c := 13) (by omega) ?_
      rw [mW_mW, mW_eq, Cl_back, mW_id rfl, ev, vI_mI]
      have hs : amx (CT v x) (-1) 0 (k + 1) = if CT v x k ≤ (amx (CT v x) (-1) 0 k).1 then amx (CT v x) (-1) 0 k else (CT v x k, nI k) := rfl
      have hF : TK (clv v k x) = CT v x k := rfl
      rw [hF]
      split
      · rename_i q
        rw [if_pos q] at hs
        have := ih (k + 1) (mI (CT v x k)) (by omega)
        rw [hs, ← nI_1] at this
        exact this
      · rename_i q
        rw [if_neg q] at hs
        have := ih (k + 1) (mI (CT v x k)) (by omega)
        rw [hs, ← nI_1] at this
        exact this
  exact lp (nA v) 0 mU (by omega)
theorem d_claque {μ : Mm} {K : MV → Mm → Prop} {x w : Int32} (hw : Wb (vM μ)) (h9 : W9 (vM μ)) (hK : ∀ μ', AgM μ μ' → K (mI (if w = 0 then (amx (CT (vM μ) x) (-6) (-6) (nA (vM μ))).2 else (amx (CT (vM μ) x) (-6) (-6) (nA (vM μ))).1)) μ') : Tot e_X10_claque K 32 [mO 9 55, mI x, mI w, mI (-6), mI (-6), mI 0, mU] [] μ := by
  have hn : μ 55 0 = nI (nA (vM μ)) := hw.1.2.2
  have h6 := hw.1.2.1
  have lp : ∀ (d k : Nat) (z : MV) (μ' : Mm), k + d = nA (vM μ) → AgM μ μ' → Tot e_X10_claque K 32 [mO 9 55, mI x, mI w, mI (amx (CT (vM μ) x) (-6) (-6) k).1, mI (amx (CT (vM μ) x) (-6) (-6) k).2, mI (nI k), z] [] μ' := by
    intro d
    induction d with
    | zero =>
      intro k z μ' hk ha
      have e : k = nA (vM μ) := by omega
      refine g_X10_claque_32 ?_
      rw [ha 55 0 rfl, hn, if_pos (by rw [e]; exact nI_le (Nat.le_refl _) (by omega)), e]
      have hK := hK μ' ha
      split
      · rename_i q; rw [if_pos q] at hK; exact hK
      · rename_i q; rw [if_neg q] at hK; exact hK
    | succ d ih =>
      intro k z μ' hk ha
      refine g_X10_claque_32 ?_
      rw [ha 55 0 rfl, hn, if_neg (nI_ge (by omega) (by omega))]
      refine d_raise (by omega) ?_
      have ev : vM (mW μ' 56 (Cl k x (μ' 56) 8)) = clv (vM μ) k x := by rw [vM_cl, ha.vM]
      refine d_allTakings (by rw [ev]; exact clv_wb hw) (by rw [ev]; exact h9) fun μ2 ha2 => ?_
      refine d_raise (by omega) ?_
      have e56 : μ2 56 = Cl k x (μ' 56) 8 := (ha2.cell fun _ => rfl).trans mW_eq
      rw [e56, Cl_back, ev, vI_mI]
      have ha3 : AgM μ (mW μ2 56 (μ' 56)) := fun c i e => by
        by_cases ec : c = 56
        · rw [ec, mW_eq]
          exact ha 56 i rfl
        · rw [mW_c ec, ha2 c i e, mW_c ec]
          exact ha c i e
      have hs : amx (CT (vM μ) x) (-6) (-6) (k + 1) = if CT (vM μ) x k ≤ (amx (CT (vM μ) x) (-6) (-6) k).1 then amx (CT (vM μ) x) (-6) (-6) k else (CT (vM μ) x k, nI k) := rfl
      have hF : TK (clv (vM μ) k x) = CT (vM μ) x k := rfl
      rw [hF]
      split
      · rename_i q
        rw [if_pos q] at hs
        have := ih (k + 1) (mI (CT (vM μ) x k)) _ (by omega) ha3
        rw [hs, ← nI_1] at this
        exact this
      · rename_i q
        rw [if_neg q] at hs
        have := ih (k + 1) (mI (CT (vM μ) x k)) _ (by omega) ha3
        rw [hs, ← nI_1] at this
        exact this
  exact lp (nA (vM μ)) 0 mU μ (by omega) (AgM.rf μ)
theorem AgX.vM {μ μ' : Mm} (ha : AgX μ μ') : vM μ' = vM μ := vM_congr (fun k _ => ha 55 k rfl) (ha 55 11 rfl) (ha.cell fun _ => rfl) (ha.cell fun _ => rfl) (ha.cell fun _ => rfl) (ha.cell fun _ => rfl) (ha.cell fun _ => rfl)
theorem call_claque {μ : Mm} (r : Rl μ) (a b : Int32) : s_X9_claque [mO 8 0, mI a, mI b] μ (fun v1 μ1 => s_X10_claque [mO 9 55, mI a, mI b] μ1 (fun v2 μ2 => Gd v1 v2 μ2)) := by
  have no : (decide (1 ≤ a ∧ a ≤ 25) = false ∨ decide (0 ≤ b ∧ b ≤ 1) = false) → s_X10_claque [mO 9 55, mI a, mI b] μ (fun v2 μ2 => Gd (mI (-2)) v2 μ2) := by
    intro h
    refine g_X10_claque (d_in ?_)
    rw [vI_mI, ite_b]
    cases ha : decide (1 ≤ a ∧ a ≤ 25) with
    | false => exact ⟨rfl, r⟩
    | true =>
      rw [cond_true]
      refine d_in ?_
      rw [vI_mI, ite_b, h.resolve_left (by rw [ha]; decide)]
      exact ⟨rfl, r⟩
  refine g_X9_claque (c_within ?_)
  rw [vI_mI, ite_b]
  cases ha : decide (1 ≤ a ∧ a ≤ 25) with
  | false => exact no (Or.inl ha)
  | true =>
    rw [cond_true]
    refine c_within ?_
    rw [vI_mI, ite_b]
    cases hb : decide (0 ≤ b ∧ b ≤ 1) with
    | false => exact no (Or.inr hb)
    | true =>
      rw [cond_true]
      refine c_tried fun μ1 ha1 hv1 _ => ?_
      refine c_claque (v := vM μ) r.wb (by rw [hv1, r.v]) ?_
      have r2 : Rl μ1 := ha1.Rl r
      refine g_X10_claque (d_in ?_)
      rw [vI_mI, ite_b, ha, cond_true]
      refine d_in ?_
      rw [vI_mI, ite_b, hb, cond_true]
      refine d_claque r2.wb r2.w9 fun μ3 ha3 => ⟨?_, ha3.Rl r2⟩
      obtain ⟨bb, hbb, -, eb⟩ := r.f2
      obtain ⟨ss, hss, -, es⟩ := r.f3
      obtain ⟨t, ht, et⟩ : ∃ t, t ≤ 3200 ∧ CT (vM μ) a 0 = nI t := TK_nn (v := clv (vM μ) 0 a) (clv_wb r.wb) hbb hss eb es
      obtain ⟨m, hm⟩ : ∃ m, nA (vM μ) = m + 1 := ⟨nA (vM μ) - 1, by have := r.n1; omega⟩
      rw [ha1.vM, vI_mI, hm, amx_same (f := CT (vM μ) a) (m0 := -1) (m1 := -6) (b0 := 0) (b1 := -6) (by rw [et]; exact nn_m1 ht) (by rw [et]; exact nn_m6 ht) m]
