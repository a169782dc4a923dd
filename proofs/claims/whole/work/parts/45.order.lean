/-! ===== ORDER: the class's walk ===== -/
theorem rzM_id {μ : Mm} {c n : Nat} {f : Nat → Nat} (h : ∀ k, k < n → μ c k = nI (f k)) : rzM μ c n f = μ := mW_id (funext fun k => by
  show (if k < n then nI (f k) else μ c k) = μ c k
  by_cases e : k < n
  · rw [if_pos e]; exact (h k e).symm
  · rw [if_neg e])
theorem rzM_out {μ : Mm} {c n : Nat} {f : Nat → Nat} {k : Nat} (h : ¬ k < n) : rzM μ c n f c k = μ c k := by
  unfold rzM
  rw [mW_eq]
  exact if_neg h
theorem vS_row {μ μ' : Mm} {c : Nat} (h : ∀ d, d ≤ 9 → d ≠ 1 → μ' (c + d) = μ (c + d)) : ∀ r, r ≠ 2 → vS μ' c r = vS μ c r := by
  have e0 : μ' c = μ c := h 0 (by omega) (by omega)
  intro r hr
  match r, hr with
  | 0, _ => unfold vS; simp only [e0, h 6 (by omega) (by omega)]
  | 1, _ => unfold vS; simp only [h 2 (by omega) (by omega)]
  | 2, hr => exact absurd rfl hr
  | 3, _ => unfold vS; simp only [h 3 (by omega) (by omega)]
  | 4, _ => unfold vS; simp only [h 5 (by omega) (by omega)]
  | 5, _ => unfold vS; simp only [h 7 (by omega) (by omega)]
  | 6, _ => unfold vS; simp only [h 8 (by omega) (by omega)]
  | 7, _ => unfold vS; simp only [h 9 (by omega) (by omega)]
  | r + 8, _ => rfl
theorem row_wb {v w : Vw} (hw : Wb v) (h0 : w 0 = v 0) {f : Nat → Nat} (hp : rzP (nA v) f) (h2 : ∀ j, j < nA v → w 2 j = nI (f j)) (h3 : ∀ j, nA v ≤ j → j < 6 → ∃ a, a < 6 ∧ w 2 j = nI a) : Wb w := by
  have hn : nA w = nA v := by unfold nA; rw [h0]
  refine ⟨by rw [hn, h0]; exact hw.1, fun j hj => ?_⟩
  obtain ⟨a, ha, e⟩ : ∃ a, a < 6 ∧ w 2 j = nI a := by
    by_cases q : j < nA v
    · exact ⟨f j, by have := hp.lt q; have := hw.1.2.1; omega, h2 j q⟩
    · exact h3 j (by omega) hj
  have eo : oA w j = a := by
    unfold oA
    rw [e, nI_clamp (by omega)]
  rw [eo]
  exact ⟨ha, e⟩
theorem row_TK {v w : Vw} (h0 : w 0 = v 0) (h1 : w 1 = v 1) {f : Nat → Nat} (h2 : ∀ j, j < nA v → w 2 j = nI (f j)) : TK w = TO v (rzl f 0 (nA v)) := by
  have hn : nA w = nA v := by unfold nA; rw [h0]
  refine TK_cg h0 h1 (fun j hj => ?_)
  rw [hn] at hj
  rw [h2 j hj]
  show nI (f j) = if j < nA v then nI (rg (rzl f 0 (nA v)) j) else v 2 j
  rw [if_pos hj, rzl_get _ 0 j hj, Nat.zero_add]
def mC (m0 : Int32) (v : Vw) : Option (List Nat) → Int32
  | none => m0
  | some b => TO v b
/-- 13: which cells of the trial a walk leaves as they are -/
def Wd (μ μ' : Mm) : Prop := ∀ c, c ≠ 14 → c ≠ 46 → μ' c = μ c
theorem Wd.ag {μ μ' : Mm} (h : Wd μ μ') : AgX μ μ' := fun c k e => by
  by_cases e1 : c = 14
  · rw [e1] at e; cases e
  · by_cases e2 : c = 46
    · rw [e2] at e; cases e
    · rw [h c e1 e2]
theorem c_order {μ : Mm} {K : MV → Mm → Prop} {v : Vw} {F : Nat → Int32} {x : Int32} (hw : Wb v) (hv : vS μ 13 = v) (eF : ∀ k, k < 6 → μ 17 k = F k) (hF : ∀ x, x < 6 → ∃ k, k < 64 ∧ F x = nI k) (nn : ∀ s : List Nat, s.Perm (List.range (nA v)) → ∃ k, k ≤ 3200 ∧ TO v s = nI k) (hex : ∃ s : List Nat, s.Perm (List.range (nA v)) ∧ okC (nA v) F s) (hx : x = -1 ∨ ∃ k, k < nA v ∧ x = nI k) (hK : ∀ b μ', rzB (okC (nA v) F) (VO v) (rzT (nA v)) (some b) → AgX μ μ' → K (mI (if x = -1 then TO v b else nI (rg b x.toNatClampNeg))) μ') : s_X4_orderForMost [mO 4 45, mO 7 13, mI x] μ K := by
  have h6 : nA v ≤ 6 := hw.1.2.1
  have hn : μ 13 0 = nI (nA v) := by rw [← hv] at hw ⊢; exact hw.1.2.2
  have ev : ∀ {μ' : Mm} {f : Nat → Nat}, Wd μ μ' → rzP (nA v) f → (∀ k, k < nA v → μ' 14 k = nI (f k)) → (∀ k, nA v ≤ k → k < 6 → μ' 14 k = nI k) → Wb (vS μ' 13) ∧ TK (vS μ' 13) = TO v (rzl f 0 (nA v)) := by
    intro μ' f wd hp hr hr2
    have hr0 : ∀ r, r ≠ 2 → vS μ' 13 r = v r := fun r h => by
      rw [← hv]
      exact vS_row (fun d h1 h2 => wd _ (by omega) (by omega)) r h
    have e2 : ∀ j, j < 6 → vS μ' 13 2 j = μ' 14 j := fun j hj => tr_at (f := μ' 14) hj
    refine ⟨row_wb hw (hr0 0 (by decide)) hp (fun j hj => ?_) (fun j h1 h2 => ⟨j, h2, ?_⟩), row_TK (hr0 0 (by decide)) (hr0 1 (by decide)) (fun j hj => ?_)⟩
    · rw [e2 j (by omega), hr j hj]
    · rw [e2 j h2, hr2 j h1 h2]
    · rw [e2 j (by omega), hr j hj]
  refine g_X4_orderForMost (c_obn (c := 13) ?_)
  have lp : ∀ (d t : Nat) (f : Nat → Nat) (o : Option (List Nat)) (μ' : Mm) (z : MV), t + d = 720 → rzP (nA v) f → t < rzC (nA v) (rzl f 0 (nA v)) → Wd μ μ' → (∀ k, k < nA v → μ' 14 k = nI (f k)) → (∀ k, nA v ≤ k → k < 6 → μ' 14 k = nI k) → (∀ b, o = some b → ∀ k, k < nA v → μ' 46 k = nI (rg b k)) → rzB (okC (nA v) F) (VO v) (rzS (nA v) (rzv (rzl f 0 (nA v)))) o →
      Tot e_X4_orderForMost K 9 [mO 4 45, mO 7 13, mI x, mI (mC (-1) v o), mI (nI t), z] [] μ' := by
    intro d
    induction d with
    | zero =>
      intro t f o μ' z ht hp hc
      have := rzC_le (n := nA v) (r := rzl f 0 (nA v))
      have := rzA_len (nA v) h6
      omega
    | succ d ih =>
      intro t f o μ' z ht hp hc wd hr hr2 hb hB
      have nx : ∀ (μ2 : Mm) (o2 : Option (List Nat)) (zz : MV), Wd μ μ2 → (∀ k, k < nA v → μ2 14 k = nI (f k)) → (∀ k, nA v ≤ k → k < 6 → μ2 14 k = nI k) → (∀ b, o2 = some b → ∀ k, k < nA v → μ2 46 k = nI (rg b k)) → rzB (okC (nA v) F) (VO v) (fun s => s.Perm (List.range (nA v)) ∧ rzv s ≤ rzv (rzl f 0 (nA v))) o2 →
          s_X4_nextByDigits [mA 6 14, mI (μ2 13 0)] μ2 (fun v2 μ3 => if vI v2 = 0 then (if x = -1 then K (mI (mC (-1) v o2)) μ3 else s_X5_at [mA 6 46, mI x] μ3 (fun v3 μ4 => K (mI (vI v3)) μ4)) else Tot e_X4_orderForMost K 9 [mO 4 45, mO 7 13, mI x, mI (mC (-1) v o2), mI (nI t + 1), zz] [] μ3) := by
        intro μ2 o2 zz wd2 q1 q2 q3 qB
        have := c_nextRow (μ := μ2) (c := 14) (n := nA v) (f := f) (K := fun v2 μ3 => if vI v2 = 0 then (if x = -1 then K (mI (mC (-1) v o2)) μ3 else s_X5_at [mA 6 46, mI x] μ3 (fun v3 μ4 => K (mI (vI v3)) μ4)) else Tot e_X4_orderForMost K 9 [mO 4 45, mO 7 13, mI x, mI (mC (-1) v o2), mI (nI t + 1), zz] [] μ3) h6 hp (fun g hg => by
          show if vI (mI 1) = 0 then _ else _
          rw [vI_mI, if_neg i10, nI_1]
          exact ih (t + 1) g o2 _ zz (by omega) hg.1 (by have := rzC_lt hg; omega) (fun c h1 h2 => by rw [rzM_c h1]; exact wd2 c h1 h2) (fun k hk => rzM_at hk) (fun k h1 h2 => by rw [rzM_out (by omega)]; exact q2 k h1 h2) (fun b e k hk => by rw [rzM_c (by decide)]; exact q3 b e k hk) (rzB_nx hg qB)) (fun he => by
          show if vI (mI 0) = 0 then _ else _
          rw [vI_mI, if_pos rfl, rzM_id q1]
          have hend := rzB_end he qB
          match o2, q3, hend with
          | none, _, hend =>
            obtain ⟨s, s1, s2⟩ := hex
            exact absurd s2 (hend s s1)
          | some b, q3, hend =>
            have hK := hK b μ2 hend wd2.ag
            by_cases ex : x = -1
            · rw [if_pos ex]
              rw [if_pos ex] at hK
              exact hK
            · rw [if_neg ex]
              rw [if_neg ex] at hK
              obtain ⟨k, hk, rfl⟩ := hx.resolve_left ex
              refine c_at (by omega) (by decide) ?_
              rw [vI_mI, q3 b rfl k hk]
              rw [nI_clamp (by omega)] at hK
              exact hK)
        rw [rzM_id q1] at this
        have e13 : μ2 13 0 = nI (nA v) := by rw [wd2 13 (by decide) (by decide), hn]
        rw [e13]
        exact this
      refine g_X4_orderForMost_9 ?_
      rw [if_neg (show ¬ (720 : Int32) ≤ nI t from nI_ge (b := 720) (by omega) (by omega))]
      obtain ⟨evW, evT⟩ := ev wd hp hr hr2
      refine c_keepsMust (c := 13) (n := nA v) (F := F) (f := f) h6 hp (by rw [wd 13 (by decide) (by decide), hn]) hr (fun k hk => by show μ' 17 k = F k; rw [wd 17 (by decide) (by decide), eF k hk]) hF (fun hok => ?_) (fun hno => ?_)
      · rw [vI_mI, if_neg i10]
        refine c_allPay evW ?_
        rw [evT, vI_mI]
        have hok2 : okC (nA v) F (rzl f 0 (nA v)) := okC_l.mpr hok
        obtain ⟨k0, hk0, ek0⟩ := nn _ hp
        by_cases q : TO v (rzl f 0 (nA v)) ≤ mC (-1) v o
        · rw [if_pos q]
          refine nx μ' o _ wd hr hr2 hb (rzB_no (by omega) hp hB (Or.inr ?_))
          match o, q with
          | none, q =>
            have q : TO v (rzl f 0 (nA v)) ≤ -1 := q
            rw [ek0] at q
            exact absurd q (nn_m1 hk0)
          | some b, q =>
            refine ⟨b, rfl, ?_⟩
            have q : TO v (rzl f 0 (nA v)) ≤ TO v b := q
            have := Int32.le_iff_toInt_le.mp q
            show - (TO v b).toInt ≤ - (TO v (rzl f 0 (nA v))).toInt
            omega
        · rw [if_neg q]
          refine c_copy (a := 14) (b := 46) (n := 6) (by decide) (by decide) ?_
          have e14 : ∀ k, mW μ' 46 (Fi (μ' 14) (μ' 46) 6) 14 k = μ' 14 k := fun k => by rw [mW_c (by decide)]
          refine nx _ (some (rzl f 0 (nA v))) _ (fun c h1 h2 => by rw [mW_c h2]; exact wd c h1 h2) (fun k hk => by rw [e14, hr k hk]) (fun k h1 h2 => by rw [e14, hr2 k h1 h2]) (fun b e k hk => ?_) (rzB_yes (by omega) hp hB hok2 (fun b e => ?_))
          · cases e
            rw [mW_eq, Fi_lt (by omega), hr k hk, rzl_get _ 0 k hk, Nat.zero_add]
          · subst e
            have q : ¬ TO v (rzl f 0 (nA v)) ≤ TO v b := q
            have := Int32.lt_iff_toInt_lt.mp (i_lt_of_not_le q)
            show - (TO v (rzl f 0 (nA v))).toInt < - (TO v b).toInt
            omega
      · rw [vI_mI, if_pos rfl]
        have hm1 : (-1 : Int32) ≤ mC (-1) v o := by
          match o, hB with
          | none, _ => exact Int32.le_refl _
          | some b, hB =>
            obtain ⟨k0, hk0, ek0⟩ := nn b hB.1.1
            show (-1 : Int32) ≤ TO v b
            rw [ek0]
            exact Int32.le_of_lt (i_lt_of_not_le (nn_m1 hk0))
        rw [if_pos hm1]
        exact nx μ' o _ wd hr hr2 hb (rzB_no (by omega) hp hB (Or.inl (fun q => hno (okC_l.mp q))))
  have h0 : ∀ k, k < 6 → mW μ (13 + 1) (Fi nI (μ (13 + 1)) 6) 14 k = nI k := fun k hk => by
    rw [show (13 + 1 : Nat) = 14 from rfl, mW_eq, Fi_lt hk]
  refine lp 720 0 (fun k => k) none _ mU rfl rz_id ?_ (fun c h1 h2 => mW_c h1) (fun k hk => h0 k (by omega)) (fun k h1 h2 => h0 k h2) (fun b e => by cases e) (rzB_0 (by omega))
  have : 0 < (rzA (nA v) (List.range (nA v))).countP (fun s => decide (rzv s ≤ rzv (rzl (fun k => k) 0 (nA v)))) := List.countP_pos_iff.mpr ⟨_, rzA_all _ _ _ (rzl_len _ 0) rz_id, decide_eq_true (Nat.le_refl _)⟩
  exact this
