/-! ===== SEATING: the reference's walk; the call ===== -/
def mS6 (E : Nat → Nat) (m : Nat) : Option (List Nat) → Int32
  | none => -6
  | some b => nI (RN E (fun k => wh m (rg b k)) (pcn m))
/-- what the walk leaves of memory -/
def oS (μ μ' : Mm) : Prop := ∀ c, c ≠ 63 → c ≠ 65 → μ' c = μ c
theorem rz_pos {n : Nat} {f : Nat → Nat} (hp : rzP n f) : 0 < rzC n (rzl f 0 n) := List.countP_pos_iff.mpr ⟨_, rzA_all _ _ _ (rzl_len _ 0) hp, decide_eq_true (Nat.le_refl _)⟩
theorem d_seatwalk {μ : Mm} {K : MV → Mm → Prop} {m a : Nat} {φ E : Nat → Nat} {x : Int32} (hm : m < 256) (hφ : ∀ g, g < 8 → φ g < 256) (hsy : ∀ g h, g < 8 → h < 8 → (φ g).testBit h = (φ h).testBit g) (hir : ∀ g, g < 8 → (φ g).testBit g = false) (e0 : μ 55 0 = nI a) (ha : a ≤ 6) (hE : ∀ g, E g ≤ a) (e1 : μ 55 1 = nI m) (e60 : ∀ g, g < 8 → μ 60 g = nI (φ g)) (e66 : ∀ k, k < pcn m → μ 66 k = nI (wh m k)) (e67 : ∀ k, k < pcn m → μ 67 k = nI (E (wh m k))) (hK : ∀ o μ', rzB (kp φ []) (fun s => (cs E [] s : Int)) (fun s => s.Perm (cmL m)) o → oS μ μ' → K (mI (sAn m E o x)) μ') : s_X10_firstRow [mO 9 55, mI (nI (pcn m))] μ (fun _ μ1 => Tot e_X10_seating K 59 [mO 9 55, mI x, mI (nI (pcn m)), mI (-6), mI 1, mU, mU, mU] [] μ1) := by
  have hn : pcn m ≤ 8 := pcn_le
  refine d_firstRow hn ?_
  have fin : ∀ (o : Option (List Nat)) (μ' : Mm) (z5 z6 z7 : MV), oS μ μ' → (∀ b, o = some b → ∀ k, k < pcn m → μ' 65 k = nI (wh m (rg b k))) → rzB (okR φ m) (VR E m) (rzT (pcn m)) o → Tot e_X10_seating K 59 [mO 9 55, mI x, mI (nI (pcn m)), mI (mS6 E m o), mI 0, z5, z6, z7] [] μ' := by
    intro o μ' z5 z6 z7 hos hb hB
    refine g_X10_seating_59 ?_
    rw [if_pos rfl]
    have hK := hK _ μ' (seat_cv hm hsy hir hB) hos
    match o, hb, hB, hK with
    | none, _, _, hK =>
      have hK : K (mI (-6)) μ' := hK
      show if x = -1 then K (mI (-6)) μ' else (if 0 ≤ (-6 : Int32) then _ else K (mI (-6)) μ')
      by_cases ex : x = -1
      · rw [if_pos ex]; exact hK
      · rw [if_neg ex, if_neg (by decide)]; exact hK
    | some b, hb, hB, hK =>
      have hR : RN E (fun k => wh m (rg b k)) (pcn m) ≤ 64 := RN_le hn
      have hK : K (mI (if x = -1 then nI (cs E [] (toG m b)) else bif decide (0 ≤ x ∧ x ≤ nI (pcn m) - 1) then nI (rg (toG m b) x.toNatClampNeg) else -6)) μ' := hK
      show if x = -1 then K (mI (nI (RN E (fun k => wh m (rg b k)) (pcn m)))) μ' else (if 0 ≤ nI (RN E (fun k => wh m (rg b k)) (pcn m)) then _ else _)
      by_cases ex : x = -1
      · rw [if_pos ex]
        rw [if_pos ex] at hK
        have e : cs E [] (toG m b) = RN E (fun k => wh m (rg b k)) (pcn m) := cs_RN
        rw [e] at hK
        exact hK
      · rw [if_neg ex, if_pos (nI_pos' (by omega))]
        rw [if_neg ex] at hK
        refine d_in ?_
        rw [vI_mI, ite_b]
        cases hd : decide (0 ≤ x ∧ x ≤ nI (pcn m) - 1) with
        | false =>
          rw [hd, cond_false] at hK
          exact hK
        | true =>
          rw [hd, cond_true] at hK
          rw [cond_true]
          obtain ⟨j, hj, rfl⟩ := (x_in hn).mp (of_decide_eq_true hd)
          rw [nI_clamp (by omega)] at hK ⊢
          rw [hb b rfl j hj]
          have e : rg (toG m b) j = wh m (rg b j) := by
            unfold toG
            rw [rzl_get _ 0 j hj, Nat.zero_add]
          rw [e] at hK
          exact ⟨vi_nI (by omega) (by decide), hK⟩
  have step : ∀ (f : Nat → Nat) (o : Option (List Nat)) (μ' : Mm) (z5 z6 z7 : MV), rzP (pcn m) f → oS μ μ' → (∀ k, k < pcn m → μ' 63 k = nI (f k)) → (∀ b, o = some b → ∀ k, k < pcn m → μ' 65 k = nI (wh m (rg b k))) → rzB (okR φ m) (VR E m) (rzS (pcn m) (rzv (rzl f 0 (pcn m)))) o →
      (∀ (g : Nat → Nat) (o2 : Option (List Nat)) (μ2 : Mm) (z5 z6 z7 : MV), rzN (pcn m) f g → oS μ μ2 → (∀ k, k < pcn m → μ2 63 k = nI (g k)) → (∀ b, o2 = some b → ∀ k, k < pcn m → μ2 65 k = nI (wh m (rg b k))) → rzB (okR φ m) (VR E m) (rzS (pcn m) (rzv (rzl g 0 (pcn m)))) o2 → Tot e_X10_seating K 59 [mO 9 55, mI x, mI (nI (pcn m)), mI (mS6 E m o2), mI 1, z5, z6, z7] [] μ2) →
      Tot e_X10_seating K 59 [mO 9 55, mI x, mI (nI (pcn m)), mI (mS6 E m o), mI 1, z5, z6, z7] [] μ' := by
    intro f o μ' z5 z6 z7 hp hos hr hb hB hnext
    have nx : ∀ (μ2 : Mm) (o2 : Option (List Nat)) (y5 y6 y7 : MV), oS μ μ2 → (∀ k, k < pcn m → μ2 63 k = nI (f k)) → (∀ b, o2 = some b → ∀ k, k < pcn m → μ2 65 k = nI (wh m (rg b k))) → rzB (okR φ m) (VR E m) (fun s => s.Perm (List.range (pcn m)) ∧ rzv s ≤ rzv (rzl f 0 (pcn m))) o2 →
        s_X10_nextRow [mO 9 55, mI (nI (pcn m))] μ2 (fun v1 μ3 => Tot e_X10_seating K 59 [mO 9 55, mI x, mI (nI (pcn m)), mI (mS6 E m o2), mI (vI v1), y5, y6, y7] [] μ3) := by
      intro μ2 o2 y5 y6 y7 os2 q1 q3 qB
      have := d_nextRow (μ := μ2) (n := pcn m) (f := f) (K := fun v1 μ3 => Tot e_X10_seating K 59 [mO 9 55, mI x, mI (nI (pcn m)), mI (mS6 E m o2), mI (vI v1), y5, y6, y7] [] μ3) hn hp (fun g hg => by
        show Tot e_X10_seating K 59 [mO 9 55, mI x, mI (nI (pcn m)), mI (mS6 E m o2), mI (vI (mI 1)), y5, y6, y7] [] (rzM μ2 63 (pcn m) g)
        rw [vI_mI]
        exact hnext g o2 _ y5 y6 y7 hg (fun c h1 h2 => by rw [rzM_c h1]; exact os2 c h1 h2) (fun k hk => rzM_at hk) (fun b e k hk => by rw [rzM_c (by decide)]; exact q3 b e k hk) (rzB_nx hg qB)) (fun he => by
        show Tot e_X10_seating K 59 [mO 9 55, mI x, mI (nI (pcn m)), mI (mS6 E m o2), mI (vI (mI 0)), y5, y6, y7] [] (rzM μ2 63 (pcn m) f)
        rw [vI_mI, rzM_id q1]
        exact fin o2 μ2 y5 y6 y7 os2 q3 (rzB_end he qB))
      rw [rzM_id q1] at this
      exact this
    have hTf : ∀ k, k < pcn m → wh m (rg (rzl f 0 (pcn m)) k) = wh m (f k) := fun k hk => by rw [rzl_get _ 0 k hk, Nat.zero_add]
    have hRf : RN E (fun k => wh m (rg (rzl f 0 (pcn m)) k)) (pcn m) = RN E (fun k => wh m (f k)) (pcn m) := RN_cg hTf
    have hKf : okR φ m (rzl f 0 (pcn m)) ↔ KF φ (fun k => wh m (f k)) (pcn m) := KF_cg hTf
    have hVf : VR E m (rzl f 0 (pcn m)) = (RN E (fun k => wh m (f k)) (pcn m) : Int) := by unfold VR; rw [hRf]
    have hR : RN E (fun k => wh m (f k)) (pcn m) ≤ 64 := RN_le hn
    have t0 : ∀ own : Int32, (¬ KF φ (fun k => wh m (f k)) (pcn m) ∨ ∃ b, o = some b ∧ RN E (fun k => wh m (rg b k)) (pcn m) ≤ RN E (fun k => wh m (f k)) (pcn m)) → Tot e_X10_seating K 99 [mO 9 55, mI x, mI (nI (pcn m)), mI (mS6 E m o), mI 1, mI own, mI 0, mI 0] [] μ' := by
      intro own hno
      have hB2 : rzB (okR φ m) (VR E m) (fun s => s.Perm (List.range (pcn m)) ∧ rzv s ≤ rzv (rzl f 0 (pcn m))) o := rzB_no hn hp hB (hno.imp (fun q z => q (hKf.mp z)) (fun ⟨b, e, q⟩ => ⟨b, e, by
        rw [hVf]
        exact Int.ofNat_le.mpr q⟩))
      refine g_X10_seating_99 ?_
      by_cases q : nI (pcn m) ≤ 0
      · rw [if_pos q, if_pos rfl]
        exact nx μ' o _ _ _ hos hr hb hB2
      · rw [if_neg q, if_pos rfl, if_pos rfl]
        exact nx μ' o _ _ _ hos hr hb hB2
    have t1 : KF φ (fun k => wh m (f k)) (pcn m) → (∀ b, o = some b → RN E (fun k => wh m (f k)) (pcn m) < RN E (fun k => wh m (rg b k)) (pcn m)) → Tot e_X10_seating K 99 [mO 9 55, mI x, mI (nI (pcn m)), mI (mS6 E m o), mI 1, mI (nI (RN E (fun k => wh m (f k)) (pcn m))), mI 1, mI 0] [] μ' := by
      intro hok hlt
      have hB2 : rzB (okR φ m) (VR E m) (fun s => s.Perm (List.range (pcn m)) ∧ rzv s ≤ rzv (rzl f 0 (pcn m))) (some (rzl f 0 (pcn m))) := rzB_yes hn hp hB (hKf.mpr hok) (fun b e => by
        rw [hVf]
        exact Int.ofNat_lt.mpr (hlt b e))
      have lc : ∀ (d i : Nat), i + d = pcn m → Tot e_X10_seating K 99 [mO 9 55, mI x, mI (nI (pcn m)), mI (mS6 E m o), mI 1, mI (nI (RN E (fun k => wh m (f k)) (pcn m))), mI 1, mI (nI i)] [] (mW μ' 65 (Fi (fun k => nI (wh m (f k))) (μ' 65) i)) := by
        intro d
        induction d with
        | succ d ih =>
          intro i hi
          have hfi := hp.lt (k := i) (by omega)
          refine g_X10_seating_99 ?_
          rw [if_neg (nI_ge (by omega) (by omega)), if_neg i10, nI_clamp (n := i) (by omega), mW_c (c' := 63) (by decide), hr i (by omega), nI_clamp (n := f i) (by omega), mW_c (c' := 66) (by decide), hos 66 (by decide) (by decide), e66 _ hfi]
          have := ih (i + 1) (by omega)
          rw [← nI_1] at this
          rw [mW_st (f' := Fi (fun k => nI (wh m (f k))) (μ' 65) (i + 1)) Fi_at (fun k hk => Fi_ne hk)]
          exact ⟨vi_nI (by omega) (by decide), vi_nI (by omega) (by decide), vi_nI (by omega) (by decide), this⟩
        | zero =>
          intro i hi
          have ei : i = pcn m := by omega
          refine g_X10_seating_99 ?_
          rw [if_pos (nI_le (by omega) (by omega)), if_neg i10]
          have := nx (mW μ' 65 (Fi (fun k => nI (wh m (f k))) (μ' 65) i)) (some (rzl f 0 (pcn m))) (mI (nI (RN E (fun k => wh m (f k)) (pcn m)))) (mI 1) (mI (nI i)) (fun c h1 h2 => by rw [mW_c h2]; exact hos c h1 h2) (fun k hk => by rw [mW_c (by decide), hr k hk]) (fun b e k hk => by
            cases e
            rw [mW_eq, Fi_lt (by omega), hTf k hk]) hB2
          have e6 : mS6 E m (some (rzl f 0 (pcn m))) = nI (RN E (fun k => wh m (f k)) (pcn m)) := by
            show nI (RN E (fun k => wh m (rg (rzl f 0 (pcn m)) k)) (pcn m)) = _
            rw [hRf]
          rw [e6] at this
          exact this
      have := lc (pcn m) 0 (by omega)
      rw [Fi_0, mW_id rfl] at this
      exact this
    have hfew : (∀ b, o = some b → RN E (fun k => wh m (f k)) (pcn m) < RN E (fun k => wh m (rg b k)) (pcn m)) → s_X10_keepsFriends [mO 9 55, mI (nI (pcn m))] μ' (fun v2 μ2 => if vI v2 = 0 then Tot e_X10_seating K 99 [mO 9 55, mI x, mI (nI (pcn m)), mI (mS6 E m o), mI 1, mI (nI (RN E (fun k => wh m (f k)) (pcn m))), mI 0, mI 0] [] μ2 else Tot e_X10_seating K 99 [mO 9 55, mI x, mI (nI (pcn m)), mI (mS6 E m o), mI 1, mI (nI (RN E (fun k => wh m (f k)) (pcn m))), mI 1, mI 0] [] μ2) := by
      intro hlt
      refine d_keepsFriends (m := m) (φ := φ) (f := f) hm hφ hp (by rw [hos 55 (by decide) (by decide), e1]) (fun g hg => by rw [hos 60 (by decide) (by decide), e60 g hg]) hr (fun k hk => by rw [hos 66 (by decide) (by decide), e66 k hk]) (fun hok => ?_) (fun hno => ?_)
      · rw [vI_mI, if_neg i10]
        exact t1 hok hlt
      · rw [vI_mI, if_pos rfl]
        exact t0 _ (Or.inl hno)
    refine g_X10_seating_59 ?_
    rw [if_neg i10]
    refine d_risen (E := E) (w := wh m) (f := f) (a := a) hn hp (by rw [hos 55 (by decide) (by decide), e0]) ha hr (fun k hk => by rw [hos 67 (by decide) (by decide), e67 k hk]) hE ?_
    rw [vI_mI]
    match o, hfew, t0 with
    | none, hfew, _ =>
      have hneg : mS6 E m none < 0 := show (-6 : Int32) < 0 by decide
      rw [if_pos hneg]
      exact hfew (fun b e => by cases e)
    | some b, hfew, t0 =>
      have hRb : RN E (fun k => wh m (rg b k)) (pcn m) ≤ 64 := RN_le hn
      have hnn : ¬ mS6 E m (some b) < 0 := show ¬ nI (RN E (fun k => wh m (rg b k)) (pcn m)) < 0 from nI_pos (by omega)
      rw [if_neg hnn]
      by_cases q : RN E (fun k => wh m (rg b k)) (pcn m) ≤ RN E (fun k => wh m (f k)) (pcn m)
      · rw [if_pos (show mS6 E m (some b) ≤ _ from nI_le q (by omega))]
        exact t0 _ (Or.inr ⟨b, rfl, q⟩)
      · rw [if_neg (show ¬ mS6 E m (some b) ≤ _ from nI_ge (by omega) (by omega))]
        exact hfew (fun b' e => by cases e; omega)
  have lp : ∀ (d : Nat) (f : Nat → Nat) (o : Option (List Nat)) (μ' : Mm) (z5 z6 z7 : MV), (rzA (pcn m) (List.range (pcn m))).length ≤ rzC (pcn m) (rzl f 0 (pcn m)) + d → rzP (pcn m) f → oS μ μ' → (∀ k, k < pcn m → μ' 63 k = nI (f k)) → (∀ b, o = some b → ∀ k, k < pcn m → μ' 65 k = nI (wh m (rg b k))) → rzB (okR φ m) (VR E m) (rzS (pcn m) (rzv (rzl f 0 (pcn m)))) o → Tot e_X10_seating K 59 [mO 9 55, mI x, mI (nI (pcn m)), mI (mS6 E m o), mI 1, z5, z6, z7] [] μ' := by
    intro d
    induction d with
    | zero =>
      intro f o μ' z5 z6 z7 hd hp hos hr hb hB
      refine step f o μ' z5 z6 z7 hp hos hr hb hB (fun g o2 μ2 y5 y6 y7 hg => ?_)
      have := rzC_lt hg
      have := rzC_le (n := pcn m) (r := rzl g 0 (pcn m))
      omega
    | succ d ih =>
      intro f o μ' z5 z6 z7 hd hp hos hr hb hB
      refine step f o μ' z5 z6 z7 hp hos hr hb hB (fun g o2 μ2 y5 y6 y7 hg k1 k2 k3 k4 => ?_)
      have := rzC_lt hg
      exact ih g o2 μ2 y5 y6 y7 (by omega) hg.1 k1 k2 k3 k4
  exact lp _ (fun k => k) none _ mU mU mU (Nat.le_add_left _ _) rz_id (fun c h1 h2 => rzM_c h1) (fun k hk => rzM_at hk) (fun b e => by cases e) (rzB_0 hn)
theorem rg_app {l : List Nat} {x : Nat} : (∀ j, j < l.length → rg (l ++ [x]) j = rg l j) ∧ rg (l ++ [x]) l.length = x := by
  unfold rg
  refine ⟨fun j hj => ?_, ?_⟩
  · rw [List.getD_eq_getElem?_getD, List.getD_eq_getElem?_getD, List.getElem?_append_left hj]
  · rw [List.getD_eq_getElem?_getD, List.getElem?_append_right (Nat.le_refl _), Nat.sub_self]
    rfl
theorem d_seating {μ : Mm} {K : MV → Mm → Prop} {m : Nat} {φ E : Nat → Nat} {x : Int32} (hw : Wb (vM μ)) (h9 : W9 (vM μ)) (hEq : LV (vM μ) = E) (hm : m < 256) (hφ : ∀ g, g < 8 → φ g < 256) (hsy : ∀ g h, g < 8 → h < 8 → (φ g).testBit h = (φ h).testBit g) (hir : ∀ g, g < 8 → (φ g).testBit g = false) (e1 : μ 55 1 = nI m) (e60 : ∀ g, g < 8 → μ 60 g = nI (φ g)) (hK : ∀ o μ', rzB (kp φ []) (fun s => (cs E [] s : Int)) (fun s => s.Perm (cmL m)) o → AgM μ μ' → K (mI (sAn m E o x)) μ') : s_X10_seating [mO 9 55, mI x] μ K := by
  have h6 : nA (vM μ) ≤ 6 := hw.1.2.1
  have e0 : μ 55 0 = nI (nA (vM μ)) := hw.1.2.2
  have hE : ∀ g, E g ≤ nA (vM μ) := fun g => by rw [← hEq]; exact LV_le
  refine g_X10_seating ?_
  have lp : ∀ (d g : Nat) (μ' : Mm), g + d = 8 → AgM μ μ' → (∀ j, j < ((List.range g).filter (fun k => m.testBit k)).length → μ' 66 j = nI (rg ((List.range g).filter (fun k => m.testBit k)) j) ∧ μ' 67 j = nI (E (rg ((List.range g).filter (fun k => m.testBit k)) j))) → Tot e_X10_seating K 4 [mO 9 55, mI x, mI (nI ((List.range g).filter (fun k => m.testBit k)).length), mI (nI g), mU, mU, mU, mU] [] μ' := by
    intro d
    induction d with
    | zero =>
      intro g μ' hg ag hq
      have e : g = 8 := by omega
      subst e
      have hl : ((List.range 8).filter (fun k => m.testBit k)).length = pcn m := cmL_len
      refine g_X10_seating_4 ?_
      rw [if_pos (by decide)]
      rw [hl] at hq ⊢
      refine d_seatwalk (m := m) (a := nA (vM μ)) (φ := φ) (E := E) hm hφ hsy hir (by rw [ag 55 0 rfl, e0]) h6 hE (by rw [ag 55 1 rfl, e1]) (fun g hg => by rw [ag 60 g rfl, e60 g hg]) (fun k hk => (hq k hk).1) (fun k hk => (hq k hk).2) (fun o μ2 hB hos => hK o μ2 hB (fun c k e => ?_))
      rw [hos c (fun z => by rw [z] at e; cases e) (fun z => by rw [z] at e; cases e)]
      exact ag c k e
    | succ d ih =>
      intro g μ' hg ag hq
      have hlen : ((List.range g).filter (fun k => m.testBit k)).length ≤ g := by
        have := List.length_filter_le (fun k => m.testBit k) (List.range g)
        rw [List.length_range] at this
        exact this
      have hs : (List.range (g + 1)).filter (fun k => m.testBit k) = (List.range g).filter (fun k => m.testBit k) ++ (if m.testBit g = true then [g] else []) := by
        rw [List.range_succ, List.filter_append]
        congr 1
        rw [List.filter_cons, List.filter_nil]
      refine g_X10_seating_4 ?_
      rw [if_neg (show ¬ (8 : Int32) ≤ nI g from nI_ge (b := 8) (by omega) (by omega))]
      refine d_has ?_
      have hb : decide ((nI m >>> (nI g &&& 31)) &&& 1 = 1) = m.testBit g := bbN m hm g (by omega)
      rw [vI_mI, ite_b, ag 55 1 rfl, e1, hb, nI_1]
      have ih := ih (g + 1)
      rw [hs] at ih
      cases hg2 : m.testBit g with
      | false =>
        rw [hg2, if_neg (by decide), List.append_nil] at ih
        rw [cond_false, nI_1]
        exact ih μ' (by omega) ag hq
      | true =>
        rw [hg2, if_pos rfl, List.length_append] at ih
        rw [cond_true]
        generalize (List.range g).filter (fun k => m.testBit k) = l at hq hlen ih ⊢
        have ag2 : AgM μ (mS μ' 66 l.length (nI g)) := ag.st rfl
        rw [nI_clamp (n := l.length) (by omega)]
        refine ⟨vi_nI (by omega) (by decide), ?_⟩
        have hv2 : vM (mS μ' 66 l.length (nI g)) = vM μ := ag2.vM
        refine d_leavesAtO (by rw [hv2]; exact hw) (by rw [hv2]; exact h9) (by omega) fun μ2 ha2 _ => ?_
        refine ⟨vi_nI (by omega) (by decide), ?_⟩
        rw [vI_mI, hv2, hEq, nI_1]
        refine ih _ (by omega) ((ag2.tr ha2.M).st rfl) (fun j hj => ?_)
        rw [List.length_singleton] at hj
        by_cases e : j = l.length
        · subst e
          rw [rg_app.2, mS_eq, mS_c (by decide), ha2 66 l.length rfl, mS_eq]
          exact ⟨rfl, rfl⟩
        · rw [rg_app.1 j (by omega), mS_k e, mS_c (by decide), ha2 66 j rfl, ha2 67 j rfl, mS_k e, mS_c (by decide)]
          exact hq j (by omega)
  exact lp 8 0 μ rfl (AgM.rf μ) (fun j hj => absurd hj (Nat.not_lt_zero j))
theorem call_seating {μ : Mm} (r : Rl μ) (a : Int32) : s_X9_seating [mO 8 0, mI a] μ (fun v1 μ1 => s_X10_seating [mO 9 55, mI a] μ1 (fun v2 μ2 => Gd v1 v2 μ2)) := by
  obtain ⟨m, hm, e3, e55⟩ := r.f1
  obtain ⟨g4, f1, f2, f3⟩ := r.g4
  have hφ : ∀ g, g < 8 → (μ 60 g).toNatClampNeg < 256 ∧ μ 60 g = nI (μ 60 g).toNatClampNeg := fun g hg => by
    obtain ⟨k, hk, e⟩ := f1 g hg
    rw [e, nI_clamp (by omega)]
    exact ⟨hk, rfl⟩
  have hbt : ∀ g h, g < 8 → h < 8 → bb (μ 60 g) h = (μ 60 g).toNatClampNeg.testBit h := fun g h hg hh => by
    obtain ⟨q1, q2⟩ := hφ g hg
    rw [← bbN _ q1 h hh, ← q2]
  have hsy : ∀ g h, g < 8 → h < 8 → ((fun g => (μ 60 g).toNatClampNeg) g).testBit h = ((fun g => (μ 60 g).toNatClampNeg) h).testBit g := fun g h hg hh => by
    show (μ 60 g).toNatClampNeg.testBit h = (μ 60 h).toNatClampNeg.testBit g
    rw [← hbt g h hg hh, ← hbt h g hh hg]
    exact f2 g h hg hh
  have hir : ∀ g, g < 8 → ((fun g => (μ 60 g).toNatClampNeg) g).testBit g = false := fun g hg => by
    show (μ 60 g).toNatClampNeg.testBit g = false
    rw [← hbt g g hg hg]
    exact f3 g hg
  refine g_X9_seating (c_seated (m := m) (φ := fun g => (μ 60 g).toNatClampNeg) (E := LV (vM μ)) hm (fun g hg => (hφ g hg).1) e3 (fun g hg => by rw [g4 g hg]; exact (hφ g hg).2) r.wbX (by rw [r.v]) (fun o μ1 hB ha1 => ?_))
  have r2 : Rl μ1 := ha1.Rl r
  have ev : vM μ1 = vM μ := ha1.vM
  rw [vI_mI]
  refine d_seating (m := m) (φ := fun g => (μ 60 g).toNatClampNeg) (E := LV (vM μ)) r2.wb r2.w9 (by rw [ev]) hm (fun g hg => (hφ g hg).1) hsy hir (by rw [ha1 55 1 rfl, e55]) (fun g hg => by rw [ha1 60 g rfl]; exact (hφ g hg).2) (fun o' μ2 hB' ha2 => ⟨?_, ha2.Rl r2⟩)
  have e := rzB_uq (n := pcn m) (fun s hs => ⟨by rw [hs.length_eq, cmL_len], fun z hz => tb_8 hm ((cmL_mem hm).mp (hs.mem_iff.mp hz))⟩) hB hB'
  rw [e]
