/-! ===== printed by program: the reference's constructor ===== -/
theorem dp_0 : decode prog_12_method_2_code 0 = .ok (.aload_n 0, 1) := by decide +kernel
theorem dp_1 : decode prog_12_method_2_code 1 = .ok (.iconst 0, 1) := by decide +kernel
theorem dp_2 : decode prog_12_method_2_code 2 = .ok (.putfield 75, 3) := by decide +kernel
theorem dp_5 : decode prog_12_method_2_code 5 = .ok (.aload_n 0, 1) := by decide +kernel
theorem dp_6 : decode prog_12_method_2_code 6 = .ok (.iconst 0, 1) := by decide +kernel
theorem dp_7 : decode prog_12_method_2_code 7 = .ok (.putfield 78, 3) := by decide +kernel
theorem dp_10 : decode prog_12_method_2_code 10 = .ok (.iconst 0, 1) := by decide +kernel
theorem dp_11 : decode prog_12_method_2_code 11 = .ok (.istore_n 1, 1) := by decide +kernel
theorem dp_12 : decode prog_12_method_2_code 12 = .ok (.iload_n 1, 1) := by decide +kernel
theorem dp_13 : decode prog_12_method_2_code 13 = .ok (.bipush 6, 2) := by decide +kernel
theorem dp_15 : decode prog_12_method_2_code 15 = .ok (.if_icmp .ge 30, 3) := by decide +kernel
theorem dp_18 : decode prog_12_method_2_code 18 = .ok (.aload_n 0, 1) := by decide +kernel
theorem dp_19 : decode prog_12_method_2_code 19 = .ok (.getfield 26, 3) := by decide +kernel
theorem dp_22 : decode prog_12_method_2_code 22 = .ok (.iload_n 1, 1) := by decide +kernel
theorem dp_23 : decode prog_12_method_2_code 23 = .ok (.iload_n 1, 1) := by decide +kernel
theorem dp_24 : decode prog_12_method_2_code 24 = .ok (.iastore, 1) := by decide +kernel
theorem dp_25 : decode prog_12_method_2_code 25 = .ok (.aload_n 0, 1) := by decide +kernel
theorem dp_26 : decode prog_12_method_2_code 26 = .ok (.getfield 29, 3) := by decide +kernel
theorem dp_29 : decode prog_12_method_2_code 29 = .ok (.iload_n 1, 1) := by decide +kernel
theorem dp_30 : decode prog_12_method_2_code 30 = .ok (.iconst 0, 1) := by decide +kernel
theorem dp_31 : decode prog_12_method_2_code 31 = .ok (.iastore, 1) := by decide +kernel
theorem dp_32 : decode prog_12_method_2_code 32 = .ok (.aload_n 0, 1) := by decide +kernel
theorem dp_33 : decode prog_12_method_2_code 33 = .ok (.getfield 32, 3) := by decide +kernel
theorem dp_36 : decode prog_12_method_2_code 36 = .ok (.iload_n 1, 1) := by decide +kernel
theorem dp_37 : decode prog_12_method_2_code 37 = .ok (.iconst 0, 1) := by decide +kernel
theorem dp_38 : decode prog_12_method_2_code 38 = .ok (.iastore, 1) := by decide +kernel
theorem dp_39 : decode prog_12_method_2_code 39 = .ok (.iinc 1 1, 3) := by decide +kernel
theorem dp_42 : decode prog_12_method_2_code 42 = .ok (.goto (-30), 3) := by decide +kernel
theorem dp_45 : decode prog_12_method_2_code 45 = .ok (.iconst 0, 1) := by decide +kernel
theorem dp_46 : decode prog_12_method_2_code 46 = .ok (.istore_n 1, 1) := by decide +kernel
theorem dp_47 : decode prog_12_method_2_code 47 = .ok (.iload_n 1, 1) := by decide +kernel
theorem dp_48 : decode prog_12_method_2_code 48 = .ok (.bipush 8, 2) := by decide +kernel
theorem dp_50 : decode prog_12_method_2_code 50 = .ok (.if_icmp .ge 16, 3) := by decide +kernel
theorem dp_53 : decode prog_12_method_2_code 53 = .ok (.aload_n 0, 1) := by decide +kernel
theorem dp_54 : decode prog_12_method_2_code 54 = .ok (.getfield 35, 3) := by decide +kernel
theorem dp_57 : decode prog_12_method_2_code 57 = .ok (.iload_n 1, 1) := by decide +kernel
theorem dp_58 : decode prog_12_method_2_code 58 = .ok (.iconst 0, 1) := by decide +kernel
theorem dp_59 : decode prog_12_method_2_code 59 = .ok (.iastore, 1) := by decide +kernel
theorem dp_60 : decode prog_12_method_2_code 60 = .ok (.iinc 1 1, 3) := by decide +kernel
theorem dp_63 : decode prog_12_method_2_code 63 = .ok (.goto (-16), 3) := by decide +kernel
theorem dp_66 : decode prog_12_method_2_code 66 = .ok (.return_, 1) := by decide +kernel
def fO6 : Nat → Int32 := Fi nI zr 6
theorem upd_zr {i : Nat} : upd zr i 0 = zr := by
  funext j
  unfold upd
  split
  · rfl
  · rfl
theorem upd_Fi {i : Nat} : upd (Fi nI zr i) i (nI i) = Fi nI zr (i + 1) := by
  funext j
  unfold upd
  by_cases h : j = i
  · rw [if_pos h, h, Fi_at]
  · rw [if_neg h, Fi_ne h]
set_option maxHeartbeats 4000000 in
set_option maxRecDepth 100000 in
theorem pl_X10 (l : Launch) (D : va_G) (cI cB h0 a1 a2 a3 a4 : Nat) (v6 v12 v14 v16 v17 v18 v19 v20 v23 v24 v25 v26 : Value) (sz : Nat) : Met l y_X10_plain (Cond.code y_X10_plain prog_12_method_2_code 2 none :: lw_g) { frames := 0, cells := 0, slots := 0, locals := 0 } (va_Pc [.ref h0] (fun U => U.heap.size = sz ∧ va_P D vwCl [(h0, .inr (9, [.int 4, .int 0, .int 5, .int 1, .int 0, .int 5, v6, .ref a1, .ref a2, .ref a3, .ref a4, .int 0, v12, .int 0, v14, .int 0, v16, v17, v18, v19, v20, .int 0, .int 0, v23, v24, v25, v26])), (a1, .inl (cI, 6, .inl zr)), (a2, .inl (cI, 6, .inl zr)), (a3, .inl (cI, 6, .inl zr)), (a4, .inl (cI, 8, .inl zr))] U.heap ∧ va_K D vwCl (ty2 cI cB) U ∧ va_D (fun _ => True) [(h0, .inr (9, [.int 4, .int 0, .int 5, .int 1, .int 0, .int 5, v6, .ref a1, .ref a2, .ref a3, .ref a4, .int 0, v12, .int 0, v14, .int 0, v16, v17, v18, v19, v20, .int 0, .int 0, v23, v24, v25, v26])), (a1, .inl (cI, 6, .inl zr)), (a2, .inl (cI, 6, .inl zr)), (a3, .inl (cI, 6, .inl zr)), (a4, .inl (cI, 8, .inl zr))])) (va_Qv (fun _ : Unit => True) (fun _ t => va_P D vwCl [(h0, .inr (9, [.int 4, .int 0, .int 5, .int 1, .int 0, .int 5, v6, .ref a1, .ref a2, .ref a3, .ref a4, .int 0, v12, .int 0, v14, .int 0, v16, v17, v18, v19, v20, .int 0, .int 0, v23, v24, v25, v26])), (a1, .inl (cI, 6, .inl fO6)), (a2, .inl (cI, 6, .inl zr)), (a3, .inl (cI, 6, .inl zr)), (a4, .inl (cI, 8, .inl zr))] t.heap ∧ va_D (va_A [(h0, .inr (9, [.int 4, .int 0, .int 5, .int 1, .int 0, .int 5, v6, .ref a1, .ref a2, .ref a3, .ref a4, .int 0, v12, .int 0, v14, .int 0, v16, v17, v18, v19, v20, .int 0, .int 0, v23, v24, v25, v26])), (a1, .inl (cI, 6, .inl zr)), (a2, .inl (cI, 6, .inl zr)), (a3, .inl (cI, 6, .inl zr)), (a4, .inl (cI, 8, .inl zr))] sz) [(h0, .inr (9, [.int 4, .int 0, .int 5, .int 1, .int 0, .int 5, v6, .ref a1, .ref a2, .ref a3, .ref a4, .int 0, v12, .int 0, v14, .int 0, v16, v17, v18, v19, v20, .int 0, .int 0, v23, v24, v25, v26])), (a1, .inl (cI, 6, .inl fO6)), (a2, .inl (cI, 6, .inl zr)), (a3, .inl (cI, 6, .inl zr)), (a4, .inl (cI, 8, .inl zr))]) (va_A [(h0, .inr (9, [.int 4, .int 0, .int 5, .int 1, .int 0, .int 5, v6, .ref a1, .ref a2, .ref a3, .ref a4, .int 0, v12, .int 0, v14, .int 0, v16, v17, v18, v19, v20, .int 0, .int 0, v23, v24, v25, v26])), (a1, .inl (cI, 6, .inl zr)), (a2, .inl (cI, 6, .inl zr)), (a3, .inl (cI, 6, .inl zr)), (a4, .inl (cI, 8, .inl zr))] sz)) 0 0 (va_A [(h0, .inr (9, [.int 4, .int 0, .int 5, .int 1, .int 0, .int 5, v6, .ref a1, .ref a2, .ref a3, .ref a4, .int 0, v12, .int 0, v14, .int 0, v16, v17, v18, v19, v20, .int 0, .int 0, v23, v24, v25, v26])), (a1, .inl (cI, 6, .inl zr)), (a2, .inl (cI, 6, .inl zr)), (a3, .inl (cI, 6, .inl zr)), (a4, .inl (cI, 8, .inl zr))] sz) := by
  refine Met.ofW (cc := prog_12_method_2_code) (maxL := 2) (ret := none) (by decide) rfl ?_
  intro p e s m args below meth c s₁ B hml hv
  obtain ⟨rfl, hsz, hP, hK, hD0⟩ := hv
  have hx := B.exec
  have hb := B.bytes
  have hr := B.returns
  have hts0 := atoms_spec (ws := Cond.code y_X10_plain prog_12_method_2_code 2 none :: lw_g) B.pre
  have hts : ∀ w ∈ lw_g, w.before ([Value.ref h0] : List Value).toArray s = true := fun w hw => hts0 w (List.mem_cons_of_mem _ hw)
  have hown : s.vm.findClass RX10 = some m.cls := findClass_of_methodNamed B.named
  have hlocks := B.notSynchronized
  subst hsz
  have hD := hD0.self (sz := s.heap.size)
  generalize hAe : va_A [(h0, .inr (9, [.int 4, .int 0, .int 5, .int 1, .int 0, .int 5, v6, .ref a1, .ref a2, .ref a3, .ref a4, .int 0, v12, .int 0, v14, .int 0, v16, v17, v18, v19, v20, .int 0, .int 0, v23, v24, v25, v26])), (a1, .inl (cI, 6, .inl zr)), (a2, .inl (cI, 6, .inl zr)), (a3, .inl (cI, 6, .inl zr)), (a4, .inl (cI, 8, .inl zr))] s.heap.size = A at hD ⊢
  have hA : ∀ q : Nat, s.heap.size ≤ q → A q := fun q h => by rw [← hAe]; exact Or.inr h
  have hS : va_S A s.heap s.heap [] := va_S.rf
  have hl := lv_entry ([.ref h0]) (n := 2) (Nat.le_of_ble_eq_true rfl)
  rw [lg_entry_eq]
  generalize (lg_sl ([.ref h0]) ++ List.replicate (2 - (lg_sl ([.ref h0])).length) Slot.unset).toArray = ls at hl ⊢
  have hl : lv_has ls 2 [(0, .ref h0)] := hl
  have l2 : ∀ (d i : Nat) (H : Heap) (locs : List Loc) (ls : Array Slot), i + d = 8 → va_P D vwCl [(h0, .inr (9, [.int 4, .int 0, .int 5, .int 1, .int 0, .int 5, v6, .ref a1, .ref a2, .ref a3, .ref a4, .int 0, v12, .int 0, v14, .int 0, v16, v17, v18, v19, v20, .int 0, .int 0, v23, v24, v25, v26])), (a1, .inl (cI, 6, .inl fO6)), (a2, .inl (cI, 6, .inl zr)), (a3, .inl (cI, 6, .inl zr)), (a4, .inl (cI, 8, .inl zr))] H → va_D A [(h0, .inr (9, [.int 4, .int 0, .int 5, .int 1, .int 0, .int 5, v6, .ref a1, .ref a2, .ref a3, .ref a4, .int 0, v12, .int 0, v14, .int 0, v16, v17, v18, v19, v20, .int 0, .int 0, v23, v24, v25, v26])), (a1, .inl (cI, 6, .inl fO6)), (a2, .inl (cI, 6, .inl zr)), (a3, .inl (cI, 6, .inl zr)), (a4, .inl (cI, 8, .inl zr))] → va_S A s.heap H locs → lv_has ls 2 [(0, .ref h0), (1, .int (nI i))] → W p l e { frames := 0, cells := 0, slots := 0, locals := 0 } s m ([Value.ref h0] : List Value).toArray below meth c H locs 0 0 (MQ below (va_Qv (fun _ : Unit => True) (fun _ t => va_P D vwCl [(h0, .inr (9, [.int 4, .int 0, .int 5, .int 1, .int 0, .int 5, v6, .ref a1, .ref a2, .ref a3, .ref a4, .int 0, v12, .int 0, v14, .int 0, v16, v17, v18, v19, v20, .int 0, .int 0, v23, v24, v25, v26])), (a1, .inl (cI, 6, .inl fO6)), (a2, .inl (cI, 6, .inl zr)), (a3, .inl (cI, 6, .inl zr)), (a4, .inl (cI, 8, .inl zr))] t.heap ∧ va_D A [(h0, .inr (9, [.int 4, .int 0, .int 5, .int 1, .int 0, .int 5, v6, .ref a1, .ref a2, .ref a3, .ref a4, .int 0, v12, .int 0, v14, .int 0, v16, v17, v18, v19, v20, .int 0, .int 0, v23, v24, v25, v26])), (a1, .inl (cI, 6, .inl fO6)), (a2, .inl (cI, 6, .inl zr)), (a3, .inl (cI, 6, .inl zr)), (a4, .inl (cI, 8, .inl zr))]) A) ([Value.ref h0] : List Value).toArray s 0 0 A) (F0 m 47 ls []) := by
    intro d
    induction d with
    | zero =>
      intro i H locs ls hi hP hD hS hl
      refine lv_iload_n hx hb dp_47 rfl (lv_at hl 1 rfl) ?_
      refine lv_bipush (v := 8) hx hb dp_48 (by decide) ?_
      refine lv_icmp_ge (tgt := 66) hx hb dp_50 (by decide) (fun c1 => ?_) (fun c1 => ?_)
      · exact W.vret hx hb hr (fun t ht hW => ⟨⟨(), rfl, trivial, by rw [ht]; exact hP, hD⟩, hS.F ht⟩) hS.2.2 dp_66
      · exact absurd (show (8 : Int32) ≤ nI i from nI_le (a := 8) (by omega) (by omega)) c1
    | succ d ih =>
      intro i H locs ls hi hP hD hS hl
      refine lv_iload_n hx hb dp_47 rfl (lv_at hl 1 rfl) ?_
      refine lv_bipush (v := 8) hx hb dp_48 (by decide) ?_
      refine lv_icmp_ge (tgt := 66) hx hb dp_50 (by decide) (fun c1 => ?_) (fun c1 => ?_)
      · exact absurd c1 (show ¬ (8 : Int32) ≤ nI i from nI_ge (b := 8) (by omega) (by omega))
      · refine lv_aload_n hx hb dp_53 rfl (lv_at hl 0 rfl) ?_
        refine va_get (D := D) (ci := 9) (v := .ref a4) (C := RX10) (T := TX10) (N := 27) hx hb hts iX10 hown hK hP 0 rfl rfl 10 (by decide) (hts _ (mg 678 (by decide +kernel))) (fun _ h9 => h9) rfl dp_54 ?_
        refine lv_iload_n hx hb dp_57 rfl (lv_at hl 1 rfl) ?_
        refine lv_iconst (v := 0) hx hb dp_58 (by decide) ?_
        refine va_iast hx hb hK hP hD hS 4 0 rfl rfl (vi_in (vi_nI (by omega) (by decide))) dp_59 (fun H locs hP hD hS => ?_)
        rw [upd_zr] at hP hD
        obtain ⟨x, ex⟩ : ∃ y : Int32, y = nI i + 1 := ⟨_, rfl⟩
        refine lv_iinc (v := x) (lv' := [(1, .int x), (0, .ref h0)]) hx hb dp_60 hl (k := 1) rfl (by rw [ex]; rfl) (by decide) rfl (fun ls hl => ?_)
        refine lv_goto (tgt := 47) hx hb dp_63 (by decide) ?_
        rw [ex, nI_1] at hl
        exact ih (i + 1) H locs ls (by omega) hP hD hS (lv_sub hl [1, 0] rfl)
  have l1 : ∀ (d i : Nat) (H : Heap) (locs : List Loc) (ls : Array Slot), i + d = 6 → va_P D vwCl [(h0, .inr (9, [.int 4, .int 0, .int 5, .int 1, .int 0, .int 5, v6, .ref a1, .ref a2, .ref a3, .ref a4, .int 0, v12, .int 0, v14, .int 0, v16, v17, v18, v19, v20, .int 0, .int 0, v23, v24, v25, v26])), (a1, .inl (cI, 6, .inl (Fi nI zr i))), (a2, .inl (cI, 6, .inl zr)), (a3, .inl (cI, 6, .inl zr)), (a4, .inl (cI, 8, .inl zr))] H → va_D A [(h0, .inr (9, [.int 4, .int 0, .int 5, .int 1, .int 0, .int 5, v6, .ref a1, .ref a2, .ref a3, .ref a4, .int 0, v12, .int 0, v14, .int 0, v16, v17, v18, v19, v20, .int 0, .int 0, v23, v24, v25, v26])), (a1, .inl (cI, 6, .inl (Fi nI zr i))), (a2, .inl (cI, 6, .inl zr)), (a3, .inl (cI, 6, .inl zr)), (a4, .inl (cI, 8, .inl zr))] → va_S A s.heap H locs → lv_has ls 2 [(0, .ref h0), (1, .int (nI i))] → W p l e { frames := 0, cells := 0, slots := 0, locals := 0 } s m ([Value.ref h0] : List Value).toArray below meth c H locs 0 0 (MQ below (va_Qv (fun _ : Unit => True) (fun _ t => va_P D vwCl [(h0, .inr (9, [.int 4, .int 0, .int 5, .int 1, .int 0, .int 5, v6, .ref a1, .ref a2, .ref a3, .ref a4, .int 0, v12, .int 0, v14, .int 0, v16, v17, v18, v19, v20, .int 0, .int 0, v23, v24, v25, v26])), (a1, .inl (cI, 6, .inl fO6)), (a2, .inl (cI, 6, .inl zr)), (a3, .inl (cI, 6, .inl zr)), (a4, .inl (cI, 8, .inl zr))] t.heap ∧ va_D A [(h0, .inr (9, [.int 4, .int 0, .int 5, .int 1, .int 0, .int 5, v6, .ref a1, .ref a2, .ref a3, .ref a4, .int 0, v12, .int 0, v14, .int 0, v16, v17, v18, v19, v20, .int 0, .int 0, v23, v24, v25, v26])), (a1, .inl (cI, 6, .inl fO6)), (a2, .inl (cI, 6, .inl zr)), (a3, .inl (cI, 6, .inl zr)), (a4, .inl (cI, 8, .inl zr))]) A) ([Value.ref h0] : List Value).toArray s 0 0 A) (F0 m 12 ls []) := by
    intro d
    induction d with
    | zero =>
      intro i H locs ls hi hP hD hS hl
      have ei : i = 6 := by omega
      subst ei
      refine lv_iload_n hx hb dp_12 rfl (lv_at hl 1 rfl) ?_
      refine lv_bipush (v := 6) hx hb dp_13 (by decide) ?_
      refine lv_icmp_ge (tgt := 45) hx hb dp_15 (by decide) (fun c1 => ?_) (fun c1 => ?_)
      · refine lv_iconst (v := 0) hx hb dp_45 (by decide) ?_
        refine lv_istore_n (lv' := [(1, .int 0), (0, .ref h0)]) hx hb dp_46 rfl hl (by decide) rfl (fun ls hl => ?_)
        exact l2 8 0 H locs ls rfl hP hD hS (lv_sub hl [1, 0] rfl)
      · exact absurd (show (6 : Int32) ≤ nI 6 by decide) c1
    | succ d ih =>
      intro i H locs ls hi hP hD hS hl
      refine lv_iload_n hx hb dp_12 rfl (lv_at hl 1 rfl) ?_
      refine lv_bipush (v := 6) hx hb dp_13 (by decide) ?_
      refine lv_icmp_ge (tgt := 45) hx hb dp_15 (by decide) (fun c1 => ?_) (fun c1 => ?_)
      · exact absurd c1 (show ¬ (6 : Int32) ≤ nI i from nI_ge (b := 6) (by omega) (by omega))
      · refine lv_aload_n hx hb dp_18 rfl (lv_at hl 0 rfl) ?_
        refine va_get (D := D) (ci := 9) (v := .ref a1) (C := RX10) (T := TX10) (N := 27) hx hb hts iX10 hown hK hP 0 rfl rfl 7 (by decide) (hts _ (mg 675 (by decide +kernel))) (fun _ h9 => h9) rfl dp_19 ?_
        refine lv_iload_n hx hb dp_22 rfl (lv_at hl 1 rfl) ?_
        refine lv_iload_n hx hb dp_23 rfl (lv_at hl 1 rfl) ?_
        refine va_iast hx hb hK hP hD hS 1 0 rfl rfl (vi_in (vi_nI (by omega) (by decide))) dp_24 (fun H locs hP hD hS => ?_)
        rw [nI_clamp (by omega), upd_Fi] at hP hD
        have hP : va_P D vwCl [(h0, .inr (9, [.int 4, .int 0, .int 5, .int 1, .int 0, .int 5, v6, .ref a1, .ref a2, .ref a3, .ref a4, .int 0, v12, .int 0, v14, .int 0, v16, v17, v18, v19, v20, .int 0, .int 0, v23, v24, v25, v26])), (a1, .inl (cI, 6, .inl (Fi nI zr (i + 1)))), (a2, .inl (cI, 6, .inl zr)), (a3, .inl (cI, 6, .inl zr)), (a4, .inl (cI, 8, .inl zr))] H := hP
        have hD : va_D A [(h0, .inr (9, [.int 4, .int 0, .int 5, .int 1, .int 0, .int 5, v6, .ref a1, .ref a2, .ref a3, .ref a4, .int 0, v12, .int 0, v14, .int 0, v16, v17, v18, v19, v20, .int 0, .int 0, v23, v24, v25, v26])), (a1, .inl (cI, 6, .inl (Fi nI zr (i + 1)))), (a2, .inl (cI, 6, .inl zr)), (a3, .inl (cI, 6, .inl zr)), (a4, .inl (cI, 8, .inl zr))] := hD
        refine lv_aload_n hx hb dp_25 rfl (lv_at hl 0 rfl) ?_
        refine va_get (D := D) (ci := 9) (v := .ref a2) (C := RX10) (T := TX10) (N := 27) hx hb hts iX10 hown hK hP 0 rfl rfl 8 (by decide) (hts _ (mg 676 (by decide +kernel))) (fun _ h9 => h9) rfl dp_26 ?_
        refine lv_iload_n hx hb dp_29 rfl (lv_at hl 1 rfl) ?_
        refine lv_iconst (v := 0) hx hb dp_30 (by decide) ?_
        refine va_iast hx hb hK hP hD hS 2 0 rfl rfl (vi_in (vi_nI (by omega) (by decide))) dp_31 (fun H locs hP hD hS => ?_)
        rw [upd_zr] at hP hD
        have hP : va_P D vwCl [(h0, .inr (9, [.int 4, .int 0, .int 5, .int 1, .int 0, .int 5, v6, .ref a1, .ref a2, .ref a3, .ref a4, .int 0, v12, .int 0, v14, .int 0, v16, v17, v18, v19, v20, .int 0, .int 0, v23, v24, v25, v26])), (a1, .inl (cI, 6, .inl (Fi nI zr (i + 1)))), (a2, .inl (cI, 6, .inl zr)), (a3, .inl (cI, 6, .inl zr)), (a4, .inl (cI, 8, .inl zr))] H := hP
        have hD : va_D A [(h0, .inr (9, [.int 4, .int 0, .int 5, .int 1, .int 0, .int 5, v6, .ref a1, .ref a2, .ref a3, .ref a4, .int 0, v12, .int 0, v14, .int 0, v16, v17, v18, v19, v20, .int 0, .int 0, v23, v24, v25, v26])), (a1, .inl (cI, 6, .inl (Fi nI zr (i + 1)))), (a2, .inl (cI, 6, .inl zr)), (a3, .inl (cI, 6, .inl zr)), (a4, .inl (cI, 8, .inl zr))] := hD
        refine lv_aload_n hx hb dp_32 rfl (lv_at hl 0 rfl) ?_
        refine va_get (D := D) (ci := 9) (v := .ref a3) (C := RX10) (T := TX10) (N := 27) hx hb hts iX10 hown hK hP 0 rfl rfl 9 (by decide) (hts _ (mg 677 (by decide +kernel))) (fun _ h9 => h9) rfl dp_33 ?_
        refine lv_iload_n hx hb dp_36 rfl (lv_at hl 1 rfl) ?_
        refine lv_iconst (v := 0) hx hb dp_37 (by decide) ?_
        refine va_iast hx hb hK hP hD hS 3 0 rfl rfl (vi_in (vi_nI (by omega) (by decide))) dp_38 (fun H locs hP hD hS => ?_)
        rw [upd_zr] at hP hD
        have hP : va_P D vwCl [(h0, .inr (9, [.int 4, .int 0, .int 5, .int 1, .int 0, .int 5, v6, .ref a1, .ref a2, .ref a3, .ref a4, .int 0, v12, .int 0, v14, .int 0, v16, v17, v18, v19, v20, .int 0, .int 0, v23, v24, v25, v26])), (a1, .inl (cI, 6, .inl (Fi nI zr (i + 1)))), (a2, .inl (cI, 6, .inl zr)), (a3, .inl (cI, 6, .inl zr)), (a4, .inl (cI, 8, .inl zr))] H := hP
        have hD : va_D A [(h0, .inr (9, [.int 4, .int 0, .int 5, .int 1, .int 0, .int 5, v6, .ref a1, .ref a2, .ref a3, .ref a4, .int 0, v12, .int 0, v14, .int 0, v16, v17, v18, v19, v20, .int 0, .int 0, v23, v24, v25, v26])), (a1, .inl (cI, 6, .inl (Fi nI zr (i + 1)))), (a2, .inl (cI, 6, .inl zr)), (a3, .inl (cI, 6, .inl zr)), (a4, .inl (cI, 8, .inl zr))] := hD
        obtain ⟨x, ex⟩ : ∃ y : Int32, y = nI i + 1 := ⟨_, rfl⟩
        refine lv_iinc (v := x) (lv' := [(1, .int x), (0, .ref h0)]) hx hb dp_39 hl (k := 1) rfl (by rw [ex]; rfl) (by decide) rfl (fun ls hl => ?_)
        refine lv_goto (tgt := 12) hx hb dp_42 (by decide) ?_
        rw [ex, nI_1] at hl
        exact ih (i + 1) H locs ls (by omega) hP hD hS (lv_sub hl [1, 0] rfl)
  refine lv_aload_n hx hb dp_0 rfl (lv_at hl 0 rfl) ?_
  refine lv_iconst (v := 0) hx hb dp_1 (by decide) ?_
  refine va_put (D := D) (ci := 9) (v := .int 0) (ty := .int) (C := RX10) (T := TX10) (N := 27) hx hb hts iX10 tyX10 tyX10_ok nmX10 hown hK hP hD hS 0 rfl rfl 1 (by decide) (hts _ (mg 669 (by decide +kernel))) (fun _ h9 => h9) rfl (by decide +kernel) rfl rfl (Nat.le_of_ble_eq_true rfl) dp_2 (fun H locs hP hD hS => ?_)
  have hP : va_P D vwCl [(h0, .inr (9, [.int 4, .int 0, .int 5, .int 1, .int 0, .int 5, v6, .ref a1, .ref a2, .ref a3, .ref a4, .int 0, v12, .int 0, v14, .int 0, v16, v17, v18, v19, v20, .int 0, .int 0, v23, v24, v25, v26])), (a1, .inl (cI, 6, .inl zr)), (a2, .inl (cI, 6, .inl zr)), (a3, .inl (cI, 6, .inl zr)), (a4, .inl (cI, 8, .inl zr))] H := hP
  have hD : va_D A [(h0, .inr (9, [.int 4, .int 0, .int 5, .int 1, .int 0, .int 5, v6, .ref a1, .ref a2, .ref a3, .ref a4, .int 0, v12, .int 0, v14, .int 0, v16, v17, v18, v19, v20, .int 0, .int 0, v23, v24, v25, v26])), (a1, .inl (cI, 6, .inl zr)), (a2, .inl (cI, 6, .inl zr)), (a3, .inl (cI, 6, .inl zr)), (a4, .inl (cI, 8, .inl zr))] := hD
  refine lv_aload_n hx hb dp_5 rfl (lv_at hl 0 rfl) ?_
  refine lv_iconst (v := 0) hx hb dp_6 (by decide) ?_
  refine va_put (D := D) (ci := 9) (v := .int 0) (ty := .int) (C := RX10) (T := TX10) (N := 27) hx hb hts iX10 tyX10 tyX10_ok nmX10 hown hK hP hD hS 0 rfl rfl 11 (by decide) (hts _ (mg 679 (by decide +kernel))) (fun _ h9 => h9) rfl (by decide +kernel) rfl rfl (Nat.le_of_ble_eq_true rfl) dp_7 (fun H locs hP hD hS => ?_)
  have hP : va_P D vwCl [(h0, .inr (9, [.int 4, .int 0, .int 5, .int 1, .int 0, .int 5, v6, .ref a1, .ref a2, .ref a3, .ref a4, .int 0, v12, .int 0, v14, .int 0, v16, v17, v18, v19, v20, .int 0, .int 0, v23, v24, v25, v26])), (a1, .inl (cI, 6, .inl zr)), (a2, .inl (cI, 6, .inl zr)), (a3, .inl (cI, 6, .inl zr)), (a4, .inl (cI, 8, .inl zr))] H := hP
  have hD : va_D A [(h0, .inr (9, [.int 4, .int 0, .int 5, .int 1, .int 0, .int 5, v6, .ref a1, .ref a2, .ref a3, .ref a4, .int 0, v12, .int 0, v14, .int 0, v16, v17, v18, v19, v20, .int 0, .int 0, v23, v24, v25, v26])), (a1, .inl (cI, 6, .inl zr)), (a2, .inl (cI, 6, .inl zr)), (a3, .inl (cI, 6, .inl zr)), (a4, .inl (cI, 8, .inl zr))] := hD
  refine lv_iconst (v := 0) hx hb dp_10 (by decide) ?_
  refine lv_istore_n (lv' := [(1, .int 0), (0, .ref h0)]) hx hb dp_11 rfl hl (by decide) rfl (fun ls hl => ?_)
  have e0 : Fi nI zr 0 = zr := Fi_0
  exact l1 6 0 H locs ls rfl (by rw [e0]; exact hP) (by rw [e0]; exact hD) hS (lv_sub hl [1, 0] rfl)
def ly10 : List (Nat × Nat) := [(9, 0), (20, 48), (20, 6), (20, 6), (20, 6), (20, 8), (20, 18), (20, 48), (20, 8), (20, 8), (20, 8), (20, 8), (20, 8), (20, 200), (20, 8), (20, 200), (21, 2)]
def mu10 : Mm := muR [fun k => [4, 0, 5, 1, 0, 5].getD k 0, zr, fO6]
def y_X10_init : MethodName := ⟨"ActsPaidModel", "<init>", "()V"⟩
theorem dd_X10_0 : decode prog_12_method_1_code 0 = .ok (.aload_n 0, 1) := by decide +kernel
theorem dd_X10_1 : decode prog_12_method_1_code 1 = .ok (.invokespecial 1, 3) := by decide +kernel
theorem dd_X10_4 : decode prog_12_method_1_code 4 = .ok (.aload_n 0, 1) := by decide +kernel
theorem dd_X10_5 : decode prog_12_method_1_code 5 = .ok (.iconst 4, 1) := by decide +kernel
theorem dd_X10_6 : decode prog_12_method_1_code 6 = .ok (.putfield 7, 3) := by decide +kernel
theorem dd_X10_9 : decode prog_12_method_1_code 9 = .ok (.aload_n 0, 1) := by decide +kernel
theorem dd_X10_10 : decode prog_12_method_1_code 10 = .ok (.iconst 5, 1) := by decide +kernel
theorem dd_X10_11 : decode prog_12_method_1_code 11 = .ok (.putfield 13, 3) := by decide +kernel
theorem dd_X10_14 : decode prog_12_method_1_code 14 = .ok (.aload_n 0, 1) := by decide +kernel
theorem dd_X10_15 : decode prog_12_method_1_code 15 = .ok (.iconst 1, 1) := by decide +kernel
theorem dd_X10_16 : decode prog_12_method_1_code 16 = .ok (.putfield 16, 3) := by decide +kernel
theorem dd_X10_19 : decode prog_12_method_1_code 19 = .ok (.aload_n 0, 1) := by decide +kernel
theorem dd_X10_20 : decode prog_12_method_1_code 20 = .ok (.iconst 5, 1) := by decide +kernel
theorem dd_X10_21 : decode prog_12_method_1_code 21 = .ok (.putfield 19, 3) := by decide +kernel
theorem dd_X10_24 : decode prog_12_method_1_code 24 = .ok (.aload_n 0, 1) := by decide +kernel
theorem dd_X10_25 : decode prog_12_method_1_code 25 = .ok (.bipush 48, 2) := by decide +kernel
theorem dd_X10_27 : decode prog_12_method_1_code 27 = .ok (.newarray .int, 2) := by decide +kernel
theorem dd_X10_29 : decode prog_12_method_1_code 29 = .ok (.putfield 22, 3) := by decide +kernel
theorem dd_X10_32 : decode prog_12_method_1_code 32 = .ok (.aload_n 0, 1) := by decide +kernel
theorem dd_X10_33 : decode prog_12_method_1_code 33 = .ok (.bipush 6, 2) := by decide +kernel
theorem dd_X10_35 : decode prog_12_method_1_code 35 = .ok (.newarray .int, 2) := by decide +kernel
theorem dd_X10_37 : decode prog_12_method_1_code 37 = .ok (.putfield 26, 3) := by decide +kernel
theorem dd_X10_40 : decode prog_12_method_1_code 40 = .ok (.aload_n 0, 1) := by decide +kernel
theorem dd_X10_41 : decode prog_12_method_1_code 41 = .ok (.bipush 6, 2) := by decide +kernel
theorem dd_X10_43 : decode prog_12_method_1_code 43 = .ok (.newarray .int, 2) := by decide +kernel
theorem dd_X10_45 : decode prog_12_method_1_code 45 = .ok (.putfield 29, 3) := by decide +kernel
theorem dd_X10_48 : decode prog_12_method_1_code 48 = .ok (.aload_n 0, 1) := by decide +kernel
theorem dd_X10_49 : decode prog_12_method_1_code 49 = .ok (.bipush 6, 2) := by decide +kernel
theorem dd_X10_51 : decode prog_12_method_1_code 51 = .ok (.newarray .int, 2) := by decide +kernel
theorem dd_X10_53 : decode prog_12_method_1_code 53 = .ok (.putfield 32, 3) := by decide +kernel
theorem dd_X10_56 : decode prog_12_method_1_code 56 = .ok (.aload_n 0, 1) := by decide +kernel
theorem dd_X10_57 : decode prog_12_method_1_code 57 = .ok (.bipush 8, 2) := by decide +kernel
theorem dd_X10_59 : decode prog_12_method_1_code 59 = .ok (.newarray .int, 2) := by decide +kernel
theorem dd_X10_61 : decode prog_12_method_1_code 61 = .ok (.putfield 35, 3) := by decide +kernel
theorem dd_X10_64 : decode prog_12_method_1_code 64 = .ok (.aload_n 0, 1) := by decide +kernel
theorem dd_X10_65 : decode prog_12_method_1_code 65 = .ok (.bipush 18, 2) := by decide +kernel
theorem dd_X10_67 : decode prog_12_method_1_code 67 = .ok (.newarray .int, 2) := by decide +kernel
theorem dd_X10_69 : decode prog_12_method_1_code 69 = .ok (.putfield 38, 3) := by decide +kernel
theorem dd_X10_72 : decode prog_12_method_1_code 72 = .ok (.aload_n 0, 1) := by decide +kernel
theorem dd_X10_73 : decode prog_12_method_1_code 73 = .ok (.bipush 48, 2) := by decide +kernel
theorem dd_X10_75 : decode prog_12_method_1_code 75 = .ok (.newarray .int, 2) := by decide +kernel
theorem dd_X10_77 : decode prog_12_method_1_code 77 = .ok (.putfield 41, 3) := by decide +kernel
theorem dd_X10_80 : decode prog_12_method_1_code 80 = .ok (.aload_n 0, 1) := by decide +kernel
theorem dd_X10_81 : decode prog_12_method_1_code 81 = .ok (.bipush 8, 2) := by decide +kernel
theorem dd_X10_83 : decode prog_12_method_1_code 83 = .ok (.newarray .int, 2) := by decide +kernel
theorem dd_X10_85 : decode prog_12_method_1_code 85 = .ok (.putfield 44, 3) := by decide +kernel
theorem dd_X10_88 : decode prog_12_method_1_code 88 = .ok (.aload_n 0, 1) := by decide +kernel
theorem dd_X10_89 : decode prog_12_method_1_code 89 = .ok (.bipush 8, 2) := by decide +kernel
theorem dd_X10_91 : decode prog_12_method_1_code 91 = .ok (.newarray .int, 2) := by decide +kernel
theorem dd_X10_93 : decode prog_12_method_1_code 93 = .ok (.putfield 47, 3) := by decide +kernel
theorem dd_X10_96 : decode prog_12_method_1_code 96 = .ok (.aload_n 0, 1) := by decide +kernel
theorem dd_X10_97 : decode prog_12_method_1_code 97 = .ok (.bipush 8, 2) := by decide +kernel
theorem dd_X10_99 : decode prog_12_method_1_code 99 = .ok (.newarray .int, 2) := by decide +kernel
theorem dd_X10_101 : decode prog_12_method_1_code 101 = .ok (.putfield 50, 3) := by decide +kernel
theorem dd_X10_104 : decode prog_12_method_1_code 104 = .ok (.aload_n 0, 1) := by decide +kernel
theorem dd_X10_105 : decode prog_12_method_1_code 105 = .ok (.bipush 8, 2) := by decide +kernel
theorem dd_X10_107 : decode prog_12_method_1_code 107 = .ok (.newarray .int, 2) := by decide +kernel
theorem dd_X10_109 : decode prog_12_method_1_code 109 = .ok (.putfield 53, 3) := by decide +kernel
theorem dd_X10_112 : decode prog_12_method_1_code 112 = .ok (.aload_n 0, 1) := by decide +kernel
theorem dd_X10_113 : decode prog_12_method_1_code 113 = .ok (.bipush 8, 2) := by decide +kernel
theorem dd_X10_115 : decode prog_12_method_1_code 115 = .ok (.newarray .int, 2) := by decide +kernel
theorem dd_X10_117 : decode prog_12_method_1_code 117 = .ok (.putfield 56, 3) := by decide +kernel
theorem dd_X10_120 : decode prog_12_method_1_code 120 = .ok (.aload_n 0, 1) := by decide +kernel
theorem dd_X10_121 : decode prog_12_method_1_code 121 = .ok (.sipush 200, 3) := by decide +kernel
theorem dd_X10_124 : decode prog_12_method_1_code 124 = .ok (.newarray .int, 2) := by decide +kernel
theorem dd_X10_126 : decode prog_12_method_1_code 126 = .ok (.putfield 59, 3) := by decide +kernel
theorem dd_X10_129 : decode prog_12_method_1_code 129 = .ok (.aload_n 0, 1) := by decide +kernel
theorem dd_X10_130 : decode prog_12_method_1_code 130 = .ok (.bipush 8, 2) := by decide +kernel
theorem dd_X10_132 : decode prog_12_method_1_code 132 = .ok (.newarray .int, 2) := by decide +kernel
theorem dd_X10_134 : decode prog_12_method_1_code 134 = .ok (.putfield 62, 3) := by decide +kernel
theorem dd_X10_137 : decode prog_12_method_1_code 137 = .ok (.aload_n 0, 1) := by decide +kernel
theorem dd_X10_138 : decode prog_12_method_1_code 138 = .ok (.sipush 200, 3) := by decide +kernel
theorem dd_X10_141 : decode prog_12_method_1_code 141 = .ok (.newarray .int, 2) := by decide +kernel
theorem dd_X10_143 : decode prog_12_method_1_code 143 = .ok (.putfield 65, 3) := by decide +kernel
theorem dd_X10_146 : decode prog_12_method_1_code 146 = .ok (.aload_n 0, 1) := by decide +kernel
theorem dd_X10_147 : decode prog_12_method_1_code 147 = .ok (.iconst 2, 1) := by decide +kernel
theorem dd_X10_148 : decode prog_12_method_1_code 148 = .ok (.newarray .boolean, 2) := by decide +kernel
theorem dd_X10_150 : decode prog_12_method_1_code 150 = .ok (.putfield 68, 3) := by decide +kernel
theorem dd_X10_153 : decode prog_12_method_1_code 153 = .ok (.aload_n 0, 1) := by decide +kernel
theorem dd_X10_154 : decode prog_12_method_1_code 154 = .ok (.invokevirtual 72, 3) := by decide +kernel
theorem dd_X10_157 : decode prog_12_method_1_code 157 = .ok (.return_, 1) := by decide +kernel
set_option maxHeartbeats 4000000 in
set_option maxRecDepth 100000 in
theorem ic_X10 (l : Launch) : IC l y_X10_init prog_12_method_1_code { frames := 1, cells := 16, slots := 590, locals := 21 } 9 [.int 0, .int 0, .int 0, .int 0, .int 0, .int 0, .null, .null, .null, .null, .null, .int 0, .null, .int 0, .null, .int 0, .null, .null, .null, .null, .null, .int 0, .int 0, .null, .null, .null, .null] ly10 mu10 16 590 := by
  intro D cI cB h0 sz
  refine Met.ofW (cc := prog_12_method_1_code) (maxL := 1) (ret := none) (by decide) rfl ?_
  intro p e s m args below meth c s₁ B hml hv
  obtain ⟨rfl, hsz, hP, hK, hD0⟩ := hv
  have hx := B.exec
  have hb := B.bytes
  have hr := B.returns
  have hts0 := atoms_spec (ws := Cond.code y_X10_init prog_12_method_1_code 1 none :: lw_g) B.pre
  have hts : ∀ w ∈ lw_g, w.before ([Value.ref h0] : List Value).toArray s = true := fun w hw => hts0 w (List.mem_cons_of_mem _ hw)
  have hown : s.vm.findClass RX10 = some m.cls := findClass_of_methodNamed B.named
  have hlocks := B.notSynchronized
  have hin : meth.name = "<init>" := (name_of_methodNamed B.named B.method).1
  subst hsz
  have hD := hD0.self (sz := s.heap.size)
  generalize hAe : va_A [(h0, .inr (9, [.int 0, .int 0, .int 0, .int 0, .int 0, .int 0, .null, .null, .null, .null, .null, .int 0, .null, .int 0, .null, .int 0, .null, .null, .null, .null, .null, .int 0, .int 0, .null, .null, .null, .null]))] s.heap.size = A at hD ⊢
  have hA : ∀ q : Nat, s.heap.size ≤ q → A q := fun q h => by rw [← hAe]; exact Or.inr h
  have hS : va_S A s.heap s.heap [] := va_S.rf
  have hl := lv_entry ([.ref h0]) (n := 1) (Nat.le_of_ble_eq_true rfl)
  rw [lg_entry_eq]
  generalize (lg_sl ([.ref h0]) ++ List.replicate (1 - (lg_sl ([.ref h0])).length) Slot.unset).toArray = ls at hl ⊢
  have hl : lv_has ls 1 [(0, .ref h0)] := hl
  have hP : va_P D vwCl [(h0, .inr (9, [.int 0, .int 0, .int 0, .int 0, .int 0, .int 0, .null, .null, .null, .null, .null, .int 0, .null, .int 0, .null, .int 0, .null, .null, .null, .null, .null, .int 0, .int 0, .null, .null, .null, .null]))] s.heap := hP
  refine lv_aload_n hx hb dd_X10_0 rfl (lv_at hl 0 rfl) ?_
  refine W.objInit hx hb hown (hts _ (mg 663 (by decide +kernel))) (hts _ (mg 44 (by decide +kernel))) (hts _ (mem_g (i := 45) (by decide +kernel) rfl)) rfl (by rw [hml]; exact hl.1) rfl dd_X10_1 (Nat.le_of_ble_eq_true rfl) (Nat.le_of_ble_eq_true rfl) ?_
  refine W.eq (g2 := F0 m 4 ls []) rfl ?_
  refine lv_aload_n hx hb dd_X10_4 rfl (lv_at hl 0 rfl) ?_
  refine lv_iconst (v := 4) hx hb dd_X10_5 (by decide) ?_
  refine va_put (D := D) (ci := 9) (v := .int 4) (ty := .int) (C := RX10) (T := TX10) (N := 27) hx hb hts iX10 tyX10 tyX10_ok nmX10 hown hK hP hD hS 0 rfl rfl 0 (by decide) (hts _ (mg 668 (by decide +kernel))) (fun _ h9 => h9) rfl (by decide +kernel) rfl rfl (Nat.le_of_ble_eq_true rfl) dd_X10_6 (fun H locs hP hD hS => ?_)
  have hP : va_P D vwCl [(h0, .inr (9, [.int 4, .int 0, .int 0, .int 0, .int 0, .int 0, .null, .null, .null, .null, .null, .int 0, .null, .int 0, .null, .int 0, .null, .null, .null, .null, .null, .int 0, .int 0, .null, .null, .null, .null]))] H := hP
  have hD : va_D A [(h0, .inr (9, [.int 4, .int 0, .int 0, .int 0, .int 0, .int 0, .null, .null, .null, .null, .null, .int 0, .null, .int 0, .null, .int 0, .null, .null, .null, .null, .null, .int 0, .int 0, .null, .null, .null, .null]))] := hD
  refine lv_aload_n hx hb dd_X10_9 rfl (lv_at hl 0 rfl) ?_
  refine lv_iconst (v := 5) hx hb dd_X10_10 (by decide) ?_
  refine va_put (D := D) (ci := 9) (v := .int 5) (ty := .int) (C := RX10) (T := TX10) (N := 27) hx hb hts iX10 tyX10 tyX10_ok nmX10 hown hK hP hD hS 0 rfl rfl 2 (by decide) (hts _ (mg 670 (by decide +kernel))) (fun _ h9 => h9) rfl (by decide +kernel) rfl rfl (Nat.le_of_ble_eq_true rfl) dd_X10_11 (fun H locs hP hD hS => ?_)
  have hP : va_P D vwCl [(h0, .inr (9, [.int 4, .int 0, .int 5, .int 0, .int 0, .int 0, .null, .null, .null, .null, .null, .int 0, .null, .int 0, .null, .int 0, .null, .null, .null, .null, .null, .int 0, .int 0, .null, .null, .null, .null]))] H := hP
  have hD : va_D A [(h0, .inr (9, [.int 4, .int 0, .int 5, .int 0, .int 0, .int 0, .null, .null, .null, .null, .null, .int 0, .null, .int 0, .null, .int 0, .null, .null, .null, .null, .null, .int 0, .int 0, .null, .null, .null, .null]))] := hD
  refine lv_aload_n hx hb dd_X10_14 rfl (lv_at hl 0 rfl) ?_
  refine lv_iconst (v := 1) hx hb dd_X10_15 (by decide) ?_
  refine va_put (D := D) (ci := 9) (v := .int 1) (ty := .int) (C := RX10) (T := TX10) (N := 27) hx hb hts iX10 tyX10 tyX10_ok nmX10 hown hK hP hD hS 0 rfl rfl 3 (by decide) (hts _ (mg 671 (by decide +kernel))) (fun _ h9 => h9) rfl (by decide +kernel) rfl rfl (Nat.le_of_ble_eq_true rfl) dd_X10_16 (fun H locs hP hD hS => ?_)
  have hP : va_P D vwCl [(h0, .inr (9, [.int 4, .int 0, .int 5, .int 1, .int 0, .int 0, .null, .null, .null, .null, .null, .int 0, .null, .int 0, .null, .int 0, .null, .null, .null, .null, .null, .int 0, .int 0, .null, .null, .null, .null]))] H := hP
  have hD : va_D A [(h0, .inr (9, [.int 4, .int 0, .int 5, .int 1, .int 0, .int 0, .null, .null, .null, .null, .null, .int 0, .null, .int 0, .null, .int 0, .null, .null, .null, .null, .null, .int 0, .int 0, .null, .null, .null, .null]))] := hD
  refine lv_aload_n hx hb dd_X10_19 rfl (lv_at hl 0 rfl) ?_
  refine lv_iconst (v := 5) hx hb dd_X10_20 (by decide) ?_
  refine va_put (D := D) (ci := 9) (v := .int 5) (ty := .int) (C := RX10) (T := TX10) (N := 27) hx hb hts iX10 tyX10 tyX10_ok nmX10 hown hK hP hD hS 0 rfl rfl 5 (by decide) (hts _ (mg 673 (by decide +kernel))) (fun _ h9 => h9) rfl (by decide +kernel) rfl rfl (Nat.le_of_ble_eq_true rfl) dd_X10_21 (fun H locs hP hD hS => ?_)
  have hP : va_P D vwCl [(h0, .inr (9, [.int 4, .int 0, .int 5, .int 1, .int 0, .int 5, .null, .null, .null, .null, .null, .int 0, .null, .int 0, .null, .int 0, .null, .null, .null, .null, .null, .int 0, .int 0, .null, .null, .null, .null]))] H := hP
  have hD : va_D A [(h0, .inr (9, [.int 4, .int 0, .int 5, .int 1, .int 0, .int 5, .null, .null, .null, .null, .null, .int 0, .null, .int 0, .null, .int 0, .null, .null, .null, .null, .null, .int 0, .int 0, .null, .null, .null, .null]))] := hD
  refine lv_aload_n hx hb dd_X10_24 rfl (lv_at hl 0 rfl) ?_
  refine lv_bipush (v := 48) hx hb dd_X10_25 (by decide) ?_
  refine nwI (D := D) (cI := cI) (cB := cB) hx hb (hts _ (mg 60 (by decide +kernel))) hK hP hD hS hA 48 (by decide) (by decide) (by decide) (Nat.le_of_ble_eq_true rfl) (Nat.le_of_ble_eq_true rfl) dd_X10_27 (fun q1 H hP hD hS => ?_)
  have hP : va_P D vwCl [(h0, .inr (9, [.int 4, .int 0, .int 5, .int 1, .int 0, .int 5, .null, .null, .null, .null, .null, .int 0, .null, .int 0, .null, .int 0, .null, .null, .null, .null, .null, .int 0, .int 0, .null, .null, .null, .null])), (q1, .inl (cI, 48, .inl zr))] H := hP
  have hD : va_D A [(h0, .inr (9, [.int 4, .int 0, .int 5, .int 1, .int 0, .int 5, .null, .null, .null, .null, .null, .int 0, .null, .int 0, .null, .int 0, .null, .null, .null, .null, .null, .int 0, .int 0, .null, .null, .null, .null])), (q1, .inl (cI, 48, .inl zr))] := hD
  refine va_putF (D := D) (ci := 9) (v := .ref q1) (ty := .array .int) (C := RX10) (T := TX10) (N := 27) hx hb hts iX10 tyX10 tyX10_ok nmX10 hown hK hP hD hS 0 rfl rfl 6 (by decide) (hts _ (mg 674 (by decide +kernel))) (fun _ h9 => h9) rfl hin rfl (by decide +kernel) rfl rfl (Nat.le_of_ble_eq_true rfl) dd_X10_29 (fun H locs hP hD hS => ?_)
  have hP : va_P D vwCl [(h0, .inr (9, [.int 4, .int 0, .int 5, .int 1, .int 0, .int 5, .ref q1, .null, .null, .null, .null, .int 0, .null, .int 0, .null, .int 0, .null, .null, .null, .null, .null, .int 0, .int 0, .null, .null, .null, .null])), (q1, .inl (cI, 48, .inl zr))] H := hP
  have hD : va_D A [(h0, .inr (9, [.int 4, .int 0, .int 5, .int 1, .int 0, .int 5, .ref q1, .null, .null, .null, .null, .int 0, .null, .int 0, .null, .int 0, .null, .null, .null, .null, .null, .int 0, .int 0, .null, .null, .null, .null])), (q1, .inl (cI, 48, .inl zr))] := hD
  refine lv_aload_n hx hb dd_X10_32 rfl (lv_at hl 0 rfl) ?_
  refine lv_bipush (v := 6) hx hb dd_X10_33 (by decide) ?_
  refine nwI (D := D) (cI := cI) (cB := cB) hx hb (hts _ (mg 60 (by decide +kernel))) hK hP hD hS hA 6 (by decide) (by decide) (by decide) (Nat.le_of_ble_eq_true rfl) (Nat.le_of_ble_eq_true rfl) dd_X10_35 (fun q2 H hP hD hS => ?_)
  have hP : va_P D vwCl [(h0, .inr (9, [.int 4, .int 0, .int 5, .int 1, .int 0, .int 5, .ref q1, .null, .null, .null, .null, .int 0, .null, .int 0, .null, .int 0, .null, .null, .null, .null, .null, .int 0, .int 0, .null, .null, .null, .null])), (q1, .inl (cI, 48, .inl zr)), (q2, .inl (cI, 6, .inl zr))] H := hP
  have hD : va_D A [(h0, .inr (9, [.int 4, .int 0, .int 5, .int 1, .int 0, .int 5, .ref q1, .null, .null, .null, .null, .int 0, .null, .int 0, .null, .int 0, .null, .null, .null, .null, .null, .int 0, .int 0, .null, .null, .null, .null])), (q1, .inl (cI, 48, .inl zr)), (q2, .inl (cI, 6, .inl zr))] := hD
  refine va_putF (D := D) (ci := 9) (v := .ref q2) (ty := .array .int) (C := RX10) (T := TX10) (N := 27) hx hb hts iX10 tyX10 tyX10_ok nmX10 hown hK hP hD hS 0 rfl rfl 7 (by decide) (hts _ (mg 675 (by decide +kernel))) (fun _ h9 => h9) rfl hin rfl (by decide +kernel) rfl rfl (Nat.le_of_ble_eq_true rfl) dd_X10_37 (fun H locs hP hD hS => ?_)
  have hP : va_P D vwCl [(h0, .inr (9, [.int 4, .int 0, .int 5, .int 1, .int 0, .int 5, .ref q1, .ref q2, .null, .null, .null, .int 0, .null, .int 0, .null, .int 0, .null, .null, .null, .null, .null, .int 0, .int 0, .null, .null, .null, .null])), (q1, .inl (cI, 48, .inl zr)), (q2, .inl (cI, 6, .inl zr))] H := hP
  have hD : va_D A [(h0, .inr (9, [.int 4, .int 0, .int 5, .int 1, .int 0, .int 5, .ref q1, .ref q2, .null, .null, .null, .int 0, .null, .int 0, .null, .int 0, .null, .null, .null, .null, .null, .int 0, .int 0, .null, .null, .null, .null])), (q1, .inl (cI, 48, .inl zr)), (q2, .inl (cI, 6, .inl zr))] := hD
  refine lv_aload_n hx hb dd_X10_40 rfl (lv_at hl 0 rfl) ?_
  refine lv_bipush (v := 6) hx hb dd_X10_41 (by decide) ?_
  refine nwI (D := D) (cI := cI) (cB := cB) hx hb (hts _ (mg 60 (by decide +kernel))) hK hP hD hS hA 6 (by decide) (by decide) (by decide) (Nat.le_of_ble_eq_true rfl) (Nat.le_of_ble_eq_true rfl) dd_X10_43 (fun q3 H hP hD hS => ?_)
  have hP : va_P D vwCl [(h0, .inr (9, [.int 4, .int 0, .int 5, .int 1, .int 0, .int 5, .ref q1, .ref q2, .null, .null, .null, .int 0, .null, .int 0, .null, .int 0, .null, .null, .null, .null, .null, .int 0, .int 0, .null, .null, .null, .null])), (q1, .inl (cI, 48, .inl zr)), (q2, .inl (cI, 6, .inl zr)), (q3, .inl (cI, 6, .inl zr))] H := hP
  have hD : va_D A [(h0, .inr (9, [.int 4, .int 0, .int 5, .int 1, .int 0, .int 5, .ref q1, .ref q2, .null, .null, .null, .int 0, .null, .int 0, .null, .int 0, .null, .null, .null, .null, .null, .int 0, .int 0, .null, .null, .null, .null])), (q1, .inl (cI, 48, .inl zr)), (q2, .inl (cI, 6, .inl zr)), (q3, .inl (cI, 6, .inl zr))] := hD
  refine va_putF (D := D) (ci := 9) (v := .ref q3) (ty := .array .int) (C := RX10) (T := TX10) (N := 27) hx hb hts iX10 tyX10 tyX10_ok nmX10 hown hK hP hD hS 0 rfl rfl 8 (by decide) (hts _ (mg 676 (by decide +kernel))) (fun _ h9 => h9) rfl hin rfl (by decide +kernel) rfl rfl (Nat.le_of_ble_eq_true rfl) dd_X10_45 (fun H locs hP hD hS => ?_)
  have hP : va_P D vwCl [(h0, .inr (9, [.int 4, .int 0, .int 5, .int 1, .int 0, .int 5, .ref q1, .ref q2, .ref q3, .null, .null, .int 0, .null, .int 0, .null, .int 0, .null, .null, .null, .null, .null, .int 0, .int 0, .null, .null, .null, .null])), (q1, .inl (cI, 48, .inl zr)), (q2, .inl (cI, 6, .inl zr)), (q3, .inl (cI, 6, .inl zr))] H := hP
  have hD : va_D A [(h0, .inr (9, [.int 4, .int 0, .int 5, .int 1, .int 0, .int 5, .ref q1, .ref q2, .ref q3, .null, .null, .int 0, .null, .int 0, .null, .int 0, .null, .null, .null, .null, .null, .int 0, .int 0, .null, .null, .null, .null])), (q1, .inl (cI, 48, .inl zr)), (q2, .inl (cI, 6, .inl zr)), (q3, .inl (cI, 6, .inl zr))] := hD
  refine lv_aload_n hx hb dd_X10_48 rfl (lv_at hl 0 rfl) ?_
  refine lv_bipush (v := 6) hx hb dd_X10_49 (by decide) ?_
  refine nwI (D := D) (cI := cI) (cB := cB) hx hb (hts _ (mg 60 (by decide +kernel))) hK hP hD hS hA 6 (by decide) (by decide) (by decide) (Nat.le_of_ble_eq_true rfl) (Nat.le_of_ble_eq_true rfl) dd_X10_51 (fun q4 H hP hD hS => ?_)
  have hP : va_P D vwCl [(h0, .inr (9, [.int 4, .int 0, .int 5, .int 1, .int 0, .int 5, .ref q1, .ref q2, .ref q3, .null, .null, .int 0, .null, .int 0, .null, .int 0, .null, .null, .null, .null, .null, .int 0, .int 0, .null, .null, .null, .null])), (q1, .inl (cI, 48, .inl zr)), (q2, .inl (cI, 6, .inl zr)), (q3, .inl (cI, 6, .inl zr)), (q4, .inl (cI, 6, .inl zr))] H := hP
  have hD : va_D A [(h0, .inr (9, [.int 4, .int 0, .int 5, .int 1, .int 0, .int 5, .ref q1, .ref q2, .ref q3, .null, .null, .int 0, .null, .int 0, .null, .int 0, .null, .null, .null, .null, .null, .int 0, .int 0, .null, .null, .null, .null])), (q1, .inl (cI, 48, .inl zr)), (q2, .inl (cI, 6, .inl zr)), (q3, .inl (cI, 6, .inl zr)), (q4, .inl (cI, 6, .inl zr))] := hD
  refine va_putF (D := D) (ci := 9) (v := .ref q4) (ty := .array .int) (C := RX10) (T := TX10) (N := 27) hx hb hts iX10 tyX10 tyX10_ok nmX10 hown hK hP hD hS 0 rfl rfl 9 (by decide) (hts _ (mg 677 (by decide +kernel))) (fun _ h9 => h9) rfl hin rfl (by decide +kernel) rfl rfl (Nat.le_of_ble_eq_true rfl) dd_X10_53 (fun H locs hP hD hS => ?_)
  have hP : va_P D vwCl [(h0, .inr (9, [.int 4, .int 0, .int 5, .int 1, .int 0, .int 5, .ref q1, .ref q2, .ref q3, .ref q4, .null, .int 0, .null, .int 0, .null, .int 0, .null, .null, .null, .null, .null, .int 0, .int 0, .null, .null, .null, .null])), (q1, .inl (cI, 48, .inl zr)), (q2, .inl (cI, 6, .inl zr)), (q3, .inl (cI, 6, .inl zr)), (q4, .inl (cI, 6, .inl zr))] H := hP
  have hD : va_D A [(h0, .inr (9, [.int 4, .int 0, .int 5, .int 1, .int 0, .int 5, .ref q1, .ref q2, .ref q3, .ref q4, .null, .int 0, .null, .int 0, .null, .int 0, .null, .null, .null, .null, .null, .int 0, .int 0, .null, .null, .null, .null])), (q1, .inl (cI, 48, .inl zr)), (q2, .inl (cI, 6, .inl zr)), (q3, .inl (cI, 6, .inl zr)), (q4, .inl (cI, 6, .inl zr))] := hD
  refine lv_aload_n hx hb dd_X10_56 rfl (lv_at hl 0 rfl) ?_
  refine lv_bipush (v := 8) hx hb dd_X10_57 (by decide) ?_
  refine nwI (D := D) (cI := cI) (cB := cB) hx hb (hts _ (mg 60 (by decide +kernel))) hK hP hD hS hA 8 (by decide) (by decide) (by decide) (Nat.le_of_ble_eq_true rfl) (Nat.le_of_ble_eq_true rfl) dd_X10_59 (fun q5 H hP hD hS => ?_)
  have hP : va_P D vwCl [(h0, .inr (9, [.int 4, .int 0, .int 5, .int 1, .int 0, .int 5, .ref q1, .ref q2, .ref q3, .ref q4, .null, .int 0, .null, .int 0, .null, .int 0, .null, .null, .null, .null, .null, .int 0, .int 0, .null, .null, .null, .null])), (q1, .inl (cI, 48, .inl zr)), (q2, .inl (cI, 6, .inl zr)), (q3, .inl (cI, 6, .inl zr)), (q4, .inl (cI, 6, .inl zr)), (q5, .inl (cI, 8, .inl zr))] H := hP
  have hD : va_D A [(h0, .inr (9, [.int 4, .int 0, .int 5, .int 1, .int 0, .int 5, .ref q1, .ref q2, .ref q3, .ref q4, .null, .int 0, .null, .int 0, .null, .int 0, .null, .null, .null, .null, .null, .int 0, .int 0, .null, .null, .null, .null])), (q1, .inl (cI, 48, .inl zr)), (q2, .inl (cI, 6, .inl zr)), (q3, .inl (cI, 6, .inl zr)), (q4, .inl (cI, 6, .inl zr)), (q5, .inl (cI, 8, .inl zr))] := hD
  refine va_putF (D := D) (ci := 9) (v := .ref q5) (ty := .array .int) (C := RX10) (T := TX10) (N := 27) hx hb hts iX10 tyX10 tyX10_ok nmX10 hown hK hP hD hS 0 rfl rfl 10 (by decide) (hts _ (mg 678 (by decide +kernel))) (fun _ h9 => h9) rfl hin rfl (by decide +kernel) rfl rfl (Nat.le_of_ble_eq_true rfl) dd_X10_61 (fun H locs hP hD hS => ?_)
  have hP : va_P D vwCl [(h0, .inr (9, [.int 4, .int 0, .int 5, .int 1, .int 0, .int 5, .ref q1, .ref q2, .ref q3, .ref q4, .ref q5, .int 0, .null, .int 0, .null, .int 0, .null, .null, .null, .null, .null, .int 0, .int 0, .null, .null, .null, .null])), (q1, .inl (cI, 48, .inl zr)), (q2, .inl (cI, 6, .inl zr)), (q3, .inl (cI, 6, .inl zr)), (q4, .inl (cI, 6, .inl zr)), (q5, .inl (cI, 8, .inl zr))] H := hP
  have hD : va_D A [(h0, .inr (9, [.int 4, .int 0, .int 5, .int 1, .int 0, .int 5, .ref q1, .ref q2, .ref q3, .ref q4, .ref q5, .int 0, .null, .int 0, .null, .int 0, .null, .null, .null, .null, .null, .int 0, .int 0, .null, .null, .null, .null])), (q1, .inl (cI, 48, .inl zr)), (q2, .inl (cI, 6, .inl zr)), (q3, .inl (cI, 6, .inl zr)), (q4, .inl (cI, 6, .inl zr)), (q5, .inl (cI, 8, .inl zr))] := hD
  refine lv_aload_n hx hb dd_X10_64 rfl (lv_at hl 0 rfl) ?_
  refine lv_bipush (v := 18) hx hb dd_X10_65 (by decide) ?_
  refine nwI (D := D) (cI := cI) (cB := cB) hx hb (hts _ (mg 60 (by decide +kernel))) hK hP hD hS hA 18 (by decide) (by decide) (by decide) (Nat.le_of_ble_eq_true rfl) (Nat.le_of_ble_eq_true rfl) dd_X10_67 (fun q6 H hP hD hS => ?_)
  have hP : va_P D vwCl [(h0, .inr (9, [.int 4, .int 0, .int 5, .int 1, .int 0, .int 5, .ref q1, .ref q2, .ref q3, .ref q4, .ref q5, .int 0, .null, .int 0, .null, .int 0, .null, .null, .null, .null, .null, .int 0, .int 0, .null, .null, .null, .null])), (q1, .inl (cI, 48, .inl zr)), (q2, .inl (cI, 6, .inl zr)), (q3, .inl (cI, 6, .inl zr)), (q4, .inl (cI, 6, .inl zr)), (q5, .inl (cI, 8, .inl zr)), (q6, .inl (cI, 18, .inl zr))] H := hP
  have hD : va_D A [(h0, .inr (9, [.int 4, .int 0, .int 5, .int 1, .int 0, .int 5, .ref q1, .ref q2, .ref q3, .ref q4, .ref q5, .int 0, .null, .int 0, .null, .int 0, .null, .null, .null, .null, .null, .int 0, .int 0, .null, .null, .null, .null])), (q1, .inl (cI, 48, .inl zr)), (q2, .inl (cI, 6, .inl zr)), (q3, .inl (cI, 6, .inl zr)), (q4, .inl (cI, 6, .inl zr)), (q5, .inl (cI, 8, .inl zr)), (q6, .inl (cI, 18, .inl zr))] := hD
  refine va_putF (D := D) (ci := 9) (v := .ref q6) (ty := .array .int) (C := RX10) (T := TX10) (N := 27) hx hb hts iX10 tyX10 tyX10_ok nmX10 hown hK hP hD hS 0 rfl rfl 12 (by decide) (hts _ (mg 680 (by decide +kernel))) (fun _ h9 => h9) rfl hin rfl (by decide +kernel) rfl rfl (Nat.le_of_ble_eq_true rfl) dd_X10_69 (fun H locs hP hD hS => ?_)
  have hP : va_P D vwCl [(h0, .inr (9, [.int 4, .int 0, .int 5, .int 1, .int 0, .int 5, .ref q1, .ref q2, .ref q3, .ref q4, .ref q5, .int 0, .ref q6, .int 0, .null, .int 0, .null, .null, .null, .null, .null, .int 0, .int 0, .null, .null, .null, .null])), (q1, .inl (cI, 48, .inl zr)), (q2, .inl (cI, 6, .inl zr)), (q3, .inl (cI, 6, .inl zr)), (q4, .inl (cI, 6, .inl zr)), (q5, .inl (cI, 8, .inl zr)), (q6, .inl (cI, 18, .inl zr))] H := hP
  have hD : va_D A [(h0, .inr (9, [.int 4, .int 0, .int 5, .int 1, .int 0, .int 5, .ref q1, .ref q2, .ref q3, .ref q4, .ref q5, .int 0, .ref q6, .int 0, .null, .int 0, .null, .null, .null, .null, .null, .int 0, .int 0, .null, .null, .null, .null])), (q1, .inl (cI, 48, .inl zr)), (q2, .inl (cI, 6, .inl zr)), (q3, .inl (cI, 6, .inl zr)), (q4, .inl (cI, 6, .inl zr)), (q5, .inl (cI, 8, .inl zr)), (q6, .inl (cI, 18, .inl zr))] := hD
  refine lv_aload_n hx hb dd_X10_72 rfl (lv_at hl 0 rfl) ?_
  refine lv_bipush (v := 48) hx hb dd_X10_73 (by decide) ?_
  refine nwI (D := D) (cI := cI) (cB := cB) hx hb (hts _ (mg 60 (by decide +kernel))) hK hP hD hS hA 48 (by decide) (by decide) (by decide) (Nat.le_of_ble_eq_true rfl) (Nat.le_of_ble_eq_true rfl) dd_X10_75 (fun q7 H hP hD hS => ?_)
  have hP : va_P D vwCl [(h0, .inr (9, [.int 4, .int 0, .int 5, .int 1, .int 0, .int 5, .ref q1, .ref q2, .ref q3, .ref q4, .ref q5, .int 0, .ref q6, .int 0, .null, .int 0, .null, .null, .null, .null, .null, .int 0, .int 0, .null, .null, .null, .null])), (q1, .inl (cI, 48, .inl zr)), (q2, .inl (cI, 6, .inl zr)), (q3, .inl (cI, 6, .inl zr)), (q4, .inl (cI, 6, .inl zr)), (q5, .inl (cI, 8, .inl zr)), (q6, .inl (cI, 18, .inl zr)), (q7, .inl (cI, 48, .inl zr))] H := hP
  have hD : va_D A [(h0, .inr (9, [.int 4, .int 0, .int 5, .int 1, .int 0, .int 5, .ref q1, .ref q2, .ref q3, .ref q4, .ref q5, .int 0, .ref q6, .int 0, .null, .int 0, .null, .null, .null, .null, .null, .int 0, .int 0, .null, .null, .null, .null])), (q1, .inl (cI, 48, .inl zr)), (q2, .inl (cI, 6, .inl zr)), (q3, .inl (cI, 6, .inl zr)), (q4, .inl (cI, 6, .inl zr)), (q5, .inl (cI, 8, .inl zr)), (q6, .inl (cI, 18, .inl zr)), (q7, .inl (cI, 48, .inl zr))] := hD
  refine va_putF (D := D) (ci := 9) (v := .ref q7) (ty := .array .int) (C := RX10) (T := TX10) (N := 27) hx hb hts iX10 tyX10 tyX10_ok nmX10 hown hK hP hD hS 0 rfl rfl 14 (by decide) (hts _ (mg 682 (by decide +kernel))) (fun _ h9 => h9) rfl hin rfl (by decide +kernel) rfl rfl (Nat.le_of_ble_eq_true rfl) dd_X10_77 (fun H locs hP hD hS => ?_)
  have hP : va_P D vwCl [(h0, .inr (9, [.int 4, .int 0, .int 5, .int 1, .int 0, .int 5, .ref q1, .ref q2, .ref q3, .ref q4, .ref q5, .int 0, .ref q6, .int 0, .ref q7, .int 0, .null, .null, .null, .null, .null, .int 0, .int 0, .null, .null, .null, .null])), (q1, .inl (cI, 48, .inl zr)), (q2, .inl (cI, 6, .inl zr)), (q3, .inl (cI, 6, .inl zr)), (q4, .inl (cI, 6, .inl zr)), (q5, .inl (cI, 8, .inl zr)), (q6, .inl (cI, 18, .inl zr)), (q7, .inl (cI, 48, .inl zr))] H := hP
  have hD : va_D A [(h0, .inr (9, [.int 4, .int 0, .int 5, .int 1, .int 0, .int 5, .ref q1, .ref q2, .ref q3, .ref q4, .ref q5, .int 0, .ref q6, .int 0, .ref q7, .int 0, .null, .null, .null, .null, .null, .int 0, .int 0, .null, .null, .null, .null])), (q1, .inl (cI, 48, .inl zr)), (q2, .inl (cI, 6, .inl zr)), (q3, .inl (cI, 6, .inl zr)), (q4, .inl (cI, 6, .inl zr)), (q5, .inl (cI, 8, .inl zr)), (q6, .inl (cI, 18, .inl zr)), (q7, .inl (cI, 48, .inl zr))] := hD
  refine lv_aload_n hx hb dd_X10_80 rfl (lv_at hl 0 rfl) ?_
  refine lv_bipush (v := 8) hx hb dd_X10_81 (by decide) ?_
  refine nwI (D := D) (cI := cI) (cB := cB) hx hb (hts _ (mg 60 (by decide +kernel))) hK hP hD hS hA 8 (by decide) (by decide) (by decide) (Nat.le_of_ble_eq_true rfl) (Nat.le_of_ble_eq_true rfl) dd_X10_83 (fun q8 H hP hD hS => ?_)
  have hP : va_P D vwCl [(h0, .inr (9, [.int 4, .int 0, .int 5, .int 1, .int 0, .int 5, .ref q1, .ref q2, .ref q3, .ref q4, .ref q5, .int 0, .ref q6, .int 0, .ref q7, .int 0, .null, .null, .null, .null, .null, .int 0, .int 0, .null, .null, .null, .null])), (q1, .inl (cI, 48, .inl zr)), (q2, .inl (cI, 6, .inl zr)), (q3, .inl (cI, 6, .inl zr)), (q4, .inl (cI, 6, .inl zr)), (q5, .inl (cI, 8, .inl zr)), (q6, .inl (cI, 18, .inl zr)), (q7, .inl (cI, 48, .inl zr)), (q8, .inl (cI, 8, .inl zr))] H := hP
  have hD : va_D A [(h0, .inr (9, [.int 4, .int 0, .int 5, .int 1, .int 0, .int 5, .ref q1, .ref q2, .ref q3, .ref q4, .ref q5, .int 0, .ref q6, .int 0, .ref q7, .int 0, .null, .null, .null, .null, .null, .int 0, .int 0, .null, .null, .null, .null])), (q1, .inl (cI, 48, .inl zr)), (q2, .inl (cI, 6, .inl zr)), (q3, .inl (cI, 6, .inl zr)), (q4, .inl (cI, 6, .inl zr)), (q5, .inl (cI, 8, .inl zr)), (q6, .inl (cI, 18, .inl zr)), (q7, .inl (cI, 48, .inl zr)), (q8, .inl (cI, 8, .inl zr))] := hD
  refine va_putF (D := D) (ci := 9) (v := .ref q8) (ty := .array .int) (C := RX10) (T := TX10) (N := 27) hx hb hts iX10 tyX10 tyX10_ok nmX10 hown hK hP hD hS 0 rfl rfl 16 (by decide) (hts _ (mg 684 (by decide +kernel))) (fun _ h9 => h9) rfl hin rfl (by decide +kernel) rfl rfl (Nat.le_of_ble_eq_true rfl) dd_X10_85 (fun H locs hP hD hS => ?_)
  have hP : va_P D vwCl [(h0, .inr (9, [.int 4, .int 0, .int 5, .int 1, .int 0, .int 5, .ref q1, .ref q2, .ref q3, .ref q4, .ref q5, .int 0, .ref q6, .int 0, .ref q7, .int 0, .ref q8, .null, .null, .null, .null, .int 0, .int 0, .null, .null, .null, .null])), (q1, .inl (cI, 48, .inl zr)), (q2, .inl (cI, 6, .inl zr)), (q3, .inl (cI, 6, .inl zr)), (q4, .inl (cI, 6, .inl zr)), (q5, .inl (cI, 8, .inl zr)), (q6, .inl (cI, 18, .inl zr)), (q7, .inl (cI, 48, .inl zr)), (q8, .inl (cI, 8, .inl zr))] H := hP
  have hD : va_D A [(h0, .inr (9, [.int 4, .int 0, .int 5, .int 1, .int 0, .int 5, .ref q1, .ref q2, .ref q3, .ref q4, .ref q5, .int 0, .ref q6, .int 0, .ref q7, .int 0, .ref q8, .null, .null, .null, .null, .int 0, .int 0, .null, .null, .null, .null])), (q1, .inl (cI, 48, .inl zr)), (q2, .inl (cI, 6, .inl zr)), (q3, .inl (cI, 6, .inl zr)), (q4, .inl (cI, 6, .inl zr)), (q5, .inl (cI, 8, .inl zr)), (q6, .inl (cI, 18, .inl zr)), (q7, .inl (cI, 48, .inl zr)), (q8, .inl (cI, 8, .inl zr))] := hD
  refine lv_aload_n hx hb dd_X10_88 rfl (lv_at hl 0 rfl) ?_
  refine lv_bipush (v := 8) hx hb dd_X10_89 (by decide) ?_
  refine nwI (D := D) (cI := cI) (cB := cB) hx hb (hts _ (mg 60 (by decide +kernel))) hK hP hD hS hA 8 (by decide) (by decide) (by decide) (Nat.le_of_ble_eq_true rfl) (Nat.le_of_ble_eq_true rfl) dd_X10_91 (fun q9 H hP hD hS => ?_)
  have hP : va_P D vwCl [(h0, .inr (9, [.int 4, .int 0, .int 5, .int 1, .int 0, .int 5, .ref q1, .ref q2, .ref q3, .ref q4, .ref q5, .int 0, .ref q6, .int 0, .ref q7, .int 0, .ref q8, .null, .null, .null, .null, .int 0, .int 0, .null, .null, .null, .null])), (q1, .inl (cI, 48, .inl zr)), (q2, .inl (cI, 6, .inl zr)), (q3, .inl (cI, 6, .inl zr)), (q4, .inl (cI, 6, .inl zr)), (q5, .inl (cI, 8, .inl zr)), (q6, .inl (cI, 18, .inl zr)), (q7, .inl (cI, 48, .inl zr)), (q8, .inl (cI, 8, .inl zr)), (q9, .inl (cI, 8, .inl zr))] H := hP
  have hD : va_D A [(h0, .inr (9, [.int 4, .int 0, .int 5, .int 1, .int 0, .int 5, .ref q1, .ref q2, .ref q3, .ref q4, .ref q5, .int 0, .ref q6, .int 0, .ref q7, .int 0, .ref q8, .null, .null, .null, .null, .int 0, .int 0, .null, .null, .null, .null])), (q1, .inl (cI, 48, .inl zr)), (q2, .inl (cI, 6, .inl zr)), (q3, .inl (cI, 6, .inl zr)), (q4, .inl (cI, 6, .inl zr)), (q5, .inl (cI, 8, .inl zr)), (q6, .inl (cI, 18, .inl zr)), (q7, .inl (cI, 48, .inl zr)), (q8, .inl (cI, 8, .inl zr)), (q9, .inl (cI, 8, .inl zr))] := hD
  refine va_putF (D := D) (ci := 9) (v := .ref q9) (ty := .array .int) (C := RX10) (T := TX10) (N := 27) hx hb hts iX10 tyX10 tyX10_ok nmX10 hown hK hP hD hS 0 rfl rfl 17 (by decide) (hts _ (mg 685 (by decide +kernel))) (fun _ h9 => h9) rfl hin rfl (by decide +kernel) rfl rfl (Nat.le_of_ble_eq_true rfl) dd_X10_93 (fun H locs hP hD hS => ?_)
  have hP : va_P D vwCl [(h0, .inr (9, [.int 4, .int 0, .int 5, .int 1, .int 0, .int 5, .ref q1, .ref q2, .ref q3, .ref q4, .ref q5, .int 0, .ref q6, .int 0, .ref q7, .int 0, .ref q8, .ref q9, .null, .null, .null, .int 0, .int 0, .null, .null, .null, .null])), (q1, .inl (cI, 48, .inl zr)), (q2, .inl (cI, 6, .inl zr)), (q3, .inl (cI, 6, .inl zr)), (q4, .inl (cI, 6, .inl zr)), (q5, .inl (cI, 8, .inl zr)), (q6, .inl (cI, 18, .inl zr)), (q7, .inl (cI, 48, .inl zr)), (q8, .inl (cI, 8, .inl zr)), (q9, .inl (cI, 8, .inl zr))] H := hP
  have hD : va_D A [(h0, .inr (9, [.int 4, .int 0, .int 5, .int 1, .int 0, .int 5, .ref q1, .ref q2, .ref q3, .ref q4, .ref q5, .int 0, .ref q6, .int 0, .ref q7, .int 0, .ref q8, .ref q9, .null, .null, .null, .int 0, .int 0, .null, .null, .null, .null])), (q1, .inl (cI, 48, .inl zr)), (q2, .inl (cI, 6, .inl zr)), (q3, .inl (cI, 6, .inl zr)), (q4, .inl (cI, 6, .inl zr)), (q5, .inl (cI, 8, .inl zr)), (q6, .inl (cI, 18, .inl zr)), (q7, .inl (cI, 48, .inl zr)), (q8, .inl (cI, 8, .inl zr)), (q9, .inl (cI, 8, .inl zr))] := hD
  refine lv_aload_n hx hb dd_X10_96 rfl (lv_at hl 0 rfl) ?_
  refine lv_bipush (v := 8) hx hb dd_X10_97 (by decide) ?_
  refine nwI (D := D) (cI := cI) (cB := cB) hx hb (hts _ (mg 60 (by decide +kernel))) hK hP hD hS hA 8 (by decide) (by decide) (by decide) (Nat.le_of_ble_eq_true rfl) (Nat.le_of_ble_eq_true rfl) dd_X10_99 (fun q10 H hP hD hS => ?_)
  have hP : va_P D vwCl [(h0, .inr (9, [.int 4, .int 0, .int 5, .int 1, .int 0, .int 5, .ref q1, .ref q2, .ref q3, .ref q4, .ref q5, .int 0, .ref q6, .int 0, .ref q7, .int 0, .ref q8, .ref q9, .null, .null, .null, .int 0, .int 0, .null, .null, .null, .null])), (q1, .inl (cI, 48, .inl zr)), (q2, .inl (cI, 6, .inl zr)), (q3, .inl (cI, 6, .inl zr)), (q4, .inl (cI, 6, .inl zr)), (q5, .inl (cI, 8, .inl zr)), (q6, .inl (cI, 18, .inl zr)), (q7, .inl (cI, 48, .inl zr)), (q8, .inl (cI, 8, .inl zr)), (q9, .inl (cI, 8, .inl zr)), (q10, .inl (cI, 8, .inl zr))] H := hP
  have hD : va_D A [(h0, .inr (9, [.int 4, .int 0, .int 5, .int 1, .int 0, .int 5, .ref q1, .ref q2, .ref q3, .ref q4, .ref q5, .int 0, .ref q6, .int 0, .ref q7, .int 0, .ref q8, .ref q9, .null, .null, .null, .int 0, .int 0, .null, .null, .null, .null])), (q1, .inl (cI, 48, .inl zr)), (q2, .inl (cI, 6, .inl zr)), (q3, .inl (cI, 6, .inl zr)), (q4, .inl (cI, 6, .inl zr)), (q5, .inl (cI, 8, .inl zr)), (q6, .inl (cI, 18, .inl zr)), (q7, .inl (cI, 48, .inl zr)), (q8, .inl (cI, 8, .inl zr)), (q9, .inl (cI, 8, .inl zr)), (q10, .inl (cI, 8, .inl zr))] := hD
  refine va_putF (D := D) (ci := 9) (v := .ref q10) (ty := .array .int) (C := RX10) (T := TX10) (N := 27) hx hb hts iX10 tyX10 tyX10_ok nmX10 hown hK hP hD hS 0 rfl rfl 18 (by decide) (hts _ (mg 686 (by decide +kernel))) (fun _ h9 => h9) rfl hin rfl (by decide +kernel) rfl rfl (Nat.le_of_ble_eq_true rfl) dd_X10_101 (fun H locs hP hD hS => ?_)
  have hP : va_P D vwCl [(h0, .inr (9, [.int 4, .int 0, .int 5, .int 1, .int 0, .int 5, .ref q1, .ref q2, .ref q3, .ref q4, .ref q5, .int 0, .ref q6, .int 0, .ref q7, .int 0, .ref q8, .ref q9, .ref q10, .null, .null, .int 0, .int 0, .null, .null, .null, .null])), (q1, .inl (cI, 48, .inl zr)), (q2, .inl (cI, 6, .inl zr)), (q3, .inl (cI, 6, .inl zr)), (q4, .inl (cI, 6, .inl zr)), (q5, .inl (cI, 8, .inl zr)), (q6, .inl (cI, 18, .inl zr)), (q7, .inl (cI, 48, .inl zr)), (q8, .inl (cI, 8, .inl zr)), (q9, .inl (cI, 8, .inl zr)), (q10, .inl (cI, 8, .inl zr))] H := hP
  have hD : va_D A [(h0, .inr (9, [.int 4, .int 0, .int 5, .int 1, .int 0, .int 5, .ref q1, .ref q2, .ref q3, .ref q4, .ref q5, .int 0, .ref q6, .int 0, .ref q7, .int 0, .ref q8, .ref q9, .ref q10, .null, .null, .int 0, .int 0, .null, .null, .null, .null])), (q1, .inl (cI, 48, .inl zr)), (q2, .inl (cI, 6, .inl zr)), (q3, .inl (cI, 6, .inl zr)), (q4, .inl (cI, 6, .inl zr)), (q5, .inl (cI, 8, .inl zr)), (q6, .inl (cI, 18, .inl zr)), (q7, .inl (cI, 48, .inl zr)), (q8, .inl (cI, 8, .inl zr)), (q9, .inl (cI, 8, .inl zr)), (q10, .inl (cI, 8, .inl zr))] := hD
  refine lv_aload_n hx hb dd_X10_104 rfl (lv_at hl 0 rfl) ?_
  refine lv_bipush (v := 8) hx hb dd_X10_105 (by decide) ?_
  refine nwI (D := D) (cI := cI) (cB := cB) hx hb (hts _ (mg 60 (by decide +kernel))) hK hP hD hS hA 8 (by decide) (by decide) (by decide) (Nat.le_of_ble_eq_true rfl) (Nat.le_of_ble_eq_true rfl) dd_X10_107 (fun q11 H hP hD hS => ?_)
  have hP : va_P D vwCl [(h0, .inr (9, [.int 4, .int 0, .int 5, .int 1, .int 0, .int 5, .ref q1, .ref q2, .ref q3, .ref q4, .ref q5, .int 0, .ref q6, .int 0, .ref q7, .int 0, .ref q8, .ref q9, .ref q10, .null, .null, .int 0, .int 0, .null, .null, .null, .null])), (q1, .inl (cI, 48, .inl zr)), (q2, .inl (cI, 6, .inl zr)), (q3, .inl (cI, 6, .inl zr)), (q4, .inl (cI, 6, .inl zr)), (q5, .inl (cI, 8, .inl zr)), (q6, .inl (cI, 18, .inl zr)), (q7, .inl (cI, 48, .inl zr)), (q8, .inl (cI, 8, .inl zr)), (q9, .inl (cI, 8, .inl zr)), (q10, .inl (cI, 8, .inl zr)), (q11, .inl (cI, 8, .inl zr))] H := hP
  have hD : va_D A [(h0, .inr (9, [.int 4, .int 0, .int 5, .int 1, .int 0, .int 5, .ref q1, .ref q2, .ref q3, .ref q4, .ref q5, .int 0, .ref q6, .int 0, .ref q7, .int 0, .ref q8, .ref q9, .ref q10, .null, .null, .int 0, .int 0, .null, .null, .null, .null])), (q1, .inl (cI, 48, .inl zr)), (q2, .inl (cI, 6, .inl zr)), (q3, .inl (cI, 6, .inl zr)), (q4, .inl (cI, 6, .inl zr)), (q5, .inl (cI, 8, .inl zr)), (q6, .inl (cI, 18, .inl zr)), (q7, .inl (cI, 48, .inl zr)), (q8, .inl (cI, 8, .inl zr)), (q9, .inl (cI, 8, .inl zr)), (q10, .inl (cI, 8, .inl zr)), (q11, .inl (cI, 8, .inl zr))] := hD
  refine va_putF (D := D) (ci := 9) (v := .ref q11) (ty := .array .int) (C := RX10) (T := TX10) (N := 27) hx hb hts iX10 tyX10 tyX10_ok nmX10 hown hK hP hD hS 0 rfl rfl 19 (by decide) (hts _ (mg 687 (by decide +kernel))) (fun _ h9 => h9) rfl hin rfl (by decide +kernel) rfl rfl (Nat.le_of_ble_eq_true rfl) dd_X10_109 (fun H locs hP hD hS => ?_)
  have hP : va_P D vwCl [(h0, .inr (9, [.int 4, .int 0, .int 5, .int 1, .int 0, .int 5, .ref q1, .ref q2, .ref q3, .ref q4, .ref q5, .int 0, .ref q6, .int 0, .ref q7, .int 0, .ref q8, .ref q9, .ref q10, .ref q11, .null, .int 0, .int 0, .null, .null, .null, .null])), (q1, .inl (cI, 48, .inl zr)), (q2, .inl (cI, 6, .inl zr)), (q3, .inl (cI, 6, .inl zr)), (q4, .inl (cI, 6, .inl zr)), (q5, .inl (cI, 8, .inl zr)), (q6, .inl (cI, 18, .inl zr)), (q7, .inl (cI, 48, .inl zr)), (q8, .inl (cI, 8, .inl zr)), (q9, .inl (cI, 8, .inl zr)), (q10, .inl (cI, 8, .inl zr)), (q11, .inl (cI, 8, .inl zr))] H := hP
  have hD : va_D A [(h0, .inr (9, [.int 4, .int 0, .int 5, .int 1, .int 0, .int 5, .ref q1, .ref q2, .ref q3, .ref q4, .ref q5, .int 0, .ref q6, .int 0, .ref q7, .int 0, .ref q8, .ref q9, .ref q10, .ref q11, .null, .int 0, .int 0, .null, .null, .null, .null])), (q1, .inl (cI, 48, .inl zr)), (q2, .inl (cI, 6, .inl zr)), (q3, .inl (cI, 6, .inl zr)), (q4, .inl (cI, 6, .inl zr)), (q5, .inl (cI, 8, .inl zr)), (q6, .inl (cI, 18, .inl zr)), (q7, .inl (cI, 48, .inl zr)), (q8, .inl (cI, 8, .inl zr)), (q9, .inl (cI, 8, .inl zr)), (q10, .inl (cI, 8, .inl zr)), (q11, .inl (cI, 8, .inl zr))] := hD
  refine lv_aload_n hx hb dd_X10_112 rfl (lv_at hl 0 rfl) ?_
  refine lv_bipush (v := 8) hx hb dd_X10_113 (by decide) ?_
  refine nwI (D := D) (cI := cI) (cB := cB) hx hb (hts _ (mg 60 (by decide +kernel))) hK hP hD hS hA 8 (by decide) (by decide) (by decide) (Nat.le_of_ble_eq_true rfl) (Nat.le_of_ble_eq_true rfl) dd_X10_115 (fun q12 H hP hD hS => ?_)
  have hP : va_P D vwCl [(h0, .inr (9, [.int 4, .int 0, .int 5, .int 1, .int 0, .int 5, .ref q1, .ref q2, .ref q3, .ref q4, .ref q5, .int 0, .ref q6, .int 0, .ref q7, .int 0, .ref q8, .ref q9, .ref q10, .ref q11, .null, .int 0, .int 0, .null, .null, .null, .null])), (q1, .inl (cI, 48, .inl zr)), (q2, .inl (cI, 6, .inl zr)), (q3, .inl (cI, 6, .inl zr)), (q4, .inl (cI, 6, .inl zr)), (q5, .inl (cI, 8, .inl zr)), (q6, .inl (cI, 18, .inl zr)), (q7, .inl (cI, 48, .inl zr)), (q8, .inl (cI, 8, .inl zr)), (q9, .inl (cI, 8, .inl zr)), (q10, .inl (cI, 8, .inl zr)), (q11, .inl (cI, 8, .inl zr)), (q12, .inl (cI, 8, .inl zr))] H := hP
  have hD : va_D A [(h0, .inr (9, [.int 4, .int 0, .int 5, .int 1, .int 0, .int 5, .ref q1, .ref q2, .ref q3, .ref q4, .ref q5, .int 0, .ref q6, .int 0, .ref q7, .int 0, .ref q8, .ref q9, .ref q10, .ref q11, .null, .int 0, .int 0, .null, .null, .null, .null])), (q1, .inl (cI, 48, .inl zr)), (q2, .inl (cI, 6, .inl zr)), (q3, .inl (cI, 6, .inl zr)), (q4, .inl (cI, 6, .inl zr)), (q5, .inl (cI, 8, .inl zr)), (q6, .inl (cI, 18, .inl zr)), (q7, .inl (cI, 48, .inl zr)), (q8, .inl (cI, 8, .inl zr)), (q9, .inl (cI, 8, .inl zr)), (q10, .inl (cI, 8, .inl zr)), (q11, .inl (cI, 8, .inl zr)), (q12, .inl (cI, 8, .inl zr))] := hD
  refine va_putF (D := D) (ci := 9) (v := .ref q12) (ty := .array .int) (C := RX10) (T := TX10) (N := 27) hx hb hts iX10 tyX10 tyX10_ok nmX10 hown hK hP hD hS 0 rfl rfl 20 (by decide) (hts _ (mg 688 (by decide +kernel))) (fun _ h9 => h9) rfl hin rfl (by decide +kernel) rfl rfl (Nat.le_of_ble_eq_true rfl) dd_X10_117 (fun H locs hP hD hS => ?_)
  have hP : va_P D vwCl [(h0, .inr (9, [.int 4, .int 0, .int 5, .int 1, .int 0, .int 5, .ref q1, .ref q2, .ref q3, .ref q4, .ref q5, .int 0, .ref q6, .int 0, .ref q7, .int 0, .ref q8, .ref q9, .ref q10, .ref q11, .ref q12, .int 0, .int 0, .null, .null, .null, .null])), (q1, .inl (cI, 48, .inl zr)), (q2, .inl (cI, 6, .inl zr)), (q3, .inl (cI, 6, .inl zr)), (q4, .inl (cI, 6, .inl zr)), (q5, .inl (cI, 8, .inl zr)), (q6, .inl (cI, 18, .inl zr)), (q7, .inl (cI, 48, .inl zr)), (q8, .inl (cI, 8, .inl zr)), (q9, .inl (cI, 8, .inl zr)), (q10, .inl (cI, 8, .inl zr)), (q11, .inl (cI, 8, .inl zr)), (q12, .inl (cI, 8, .inl zr))] H := hP
  have hD : va_D A [(h0, .inr (9, [.int 4, .int 0, .int 5, .int 1, .int 0, .int 5, .ref q1, .ref q2, .ref q3, .ref q4, .ref q5, .int 0, .ref q6, .int 0, .ref q7, .int 0, .ref q8, .ref q9, .ref q10, .ref q11, .ref q12, .int 0, .int 0, .null, .null, .null, .null])), (q1, .inl (cI, 48, .inl zr)), (q2, .inl (cI, 6, .inl zr)), (q3, .inl (cI, 6, .inl zr)), (q4, .inl (cI, 6, .inl zr)), (q5, .inl (cI, 8, .inl zr)), (q6, .inl (cI, 18, .inl zr)), (q7, .inl (cI, 48, .inl zr)), (q8, .inl (cI, 8, .inl zr)), (q9, .inl (cI, 8, .inl zr)), (q10, .inl (cI, 8, .inl zr)), (q11, .inl (cI, 8, .inl zr)), (q12, .inl (cI, 8, .inl zr))] := hD
  refine lv_aload_n hx hb dd_X10_120 rfl (lv_at hl 0 rfl) ?_
  refine lv_sipush (v := 200) hx hb dd_X10_121 (by decide) ?_
  refine nwI (D := D) (cI := cI) (cB := cB) hx hb (hts _ (mg 60 (by decide +kernel))) hK hP hD hS hA 200 (by decide) (by decide) (by decide) (Nat.le_of_ble_eq_true rfl) (Nat.le_of_ble_eq_true rfl) dd_X10_124 (fun q13 H hP hD hS => ?_)
  have hP : va_P D vwCl [(h0, .inr (9, [.int 4, .int 0, .int 5, .int 1, .int 0, .int 5, .ref q1, .ref q2, .ref q3, .ref q4, .ref q5, .int 0, .ref q6, .int 0, .ref q7, .int 0, .ref q8, .ref q9, .ref q10, .ref q11, .ref q12, .int 0, .int 0, .null, .null, .null, .null])), (q1, .inl (cI, 48, .inl zr)), (q2, .inl (cI, 6, .inl zr)), (q3, .inl (cI, 6, .inl zr)), (q4, .inl (cI, 6, .inl zr)), (q5, .inl (cI, 8, .inl zr)), (q6, .inl (cI, 18, .inl zr)), (q7, .inl (cI, 48, .inl zr)), (q8, .inl (cI, 8, .inl zr)), (q9, .inl (cI, 8, .inl zr)), (q10, .inl (cI, 8, .inl zr)), (q11, .inl (cI, 8, .inl zr)), (q12, .inl (cI, 8, .inl zr)), (q13, .inl (cI, 200, .inl zr))] H := hP
  have hD : va_D A [(h0, .inr (9, [.int 4, .int 0, .int 5, .int 1, .int 0, .int 5, .ref q1, .ref q2, .ref q3, .ref q4, .ref q5, .int 0, .ref q6, .int 0, .ref q7, .int 0, .ref q8, .ref q9, .ref q10, .ref q11, .ref q12, .int 0, .int 0, .null, .null, .null, .null])), (q1, .inl (cI, 48, .inl zr)), (q2, .inl (cI, 6, .inl zr)), (q3, .inl (cI, 6, .inl zr)), (q4, .inl (cI, 6, .inl zr)), (q5, .inl (cI, 8, .inl zr)), (q6, .inl (cI, 18, .inl zr)), (q7, .inl (cI, 48, .inl zr)), (q8, .inl (cI, 8, .inl zr)), (q9, .inl (cI, 8, .inl zr)), (q10, .inl (cI, 8, .inl zr)), (q11, .inl (cI, 8, .inl zr)), (q12, .inl (cI, 8, .inl zr)), (q13, .inl (cI, 200, .inl zr))] := hD
  refine va_putF (D := D) (ci := 9) (v := .ref q13) (ty := .array .int) (C := RX10) (T := TX10) (N := 27) hx hb hts iX10 tyX10 tyX10_ok nmX10 hown hK hP hD hS 0 rfl rfl 23 (by decide) (hts _ (mg 691 (by decide +kernel))) (fun _ h9 => h9) rfl hin rfl (by decide +kernel) rfl rfl (Nat.le_of_ble_eq_true rfl) dd_X10_126 (fun H locs hP hD hS => ?_)
  have hP : va_P D vwCl [(h0, .inr (9, [.int 4, .int 0, .int 5, .int 1, .int 0, .int 5, .ref q1, .ref q2, .ref q3, .ref q4, .ref q5, .int 0, .ref q6, .int 0, .ref q7, .int 0, .ref q8, .ref q9, .ref q10, .ref q11, .ref q12, .int 0, .int 0, .ref q13, .null, .null, .null])), (q1, .inl (cI, 48, .inl zr)), (q2, .inl (cI, 6, .inl zr)), (q3, .inl (cI, 6, .inl zr)), (q4, .inl (cI, 6, .inl zr)), (q5, .inl (cI, 8, .inl zr)), (q6, .inl (cI, 18, .inl zr)), (q7, .inl (cI, 48, .inl zr)), (q8, .inl (cI, 8, .inl zr)), (q9, .inl (cI, 8, .inl zr)), (q10, .inl (cI, 8, .inl zr)), (q11, .inl (cI, 8, .inl zr)), (q12, .inl (cI, 8, .inl zr)), (q13, .inl (cI, 200, .inl zr))] H := hP
  have hD : va_D A [(h0, .inr (9, [.int 4, .int 0, .int 5, .int 1, .int 0, .int 5, .ref q1, .ref q2, .ref q3, .ref q4, .ref q5, .int 0, .ref q6, .int 0, .ref q7, .int 0, .ref q8, .ref q9, .ref q10, .ref q11, .ref q12, .int 0, .int 0, .ref q13, .null, .null, .null])), (q1, .inl (cI, 48, .inl zr)), (q2, .inl (cI, 6, .inl zr)), (q3, .inl (cI, 6, .inl zr)), (q4, .inl (cI, 6, .inl zr)), (q5, .inl (cI, 8, .inl zr)), (q6, .inl (cI, 18, .inl zr)), (q7, .inl (cI, 48, .inl zr)), (q8, .inl (cI, 8, .inl zr)), (q9, .inl (cI, 8, .inl zr)), (q10, .inl (cI, 8, .inl zr)), (q11, .inl (cI, 8, .inl zr)), (q12, .inl (cI, 8, .inl zr)), (q13, .inl (cI, 200, .inl zr))] := hD
  refine lv_aload_n hx hb dd_X10_129 rfl (lv_at hl 0 rfl) ?_
  refine lv_bipush (v := 8) hx hb dd_X10_130 (by decide) ?_
  refine nwI (D := D) (cI := cI) (cB := cB) hx hb (hts _ (mg 60 (by decide +kernel))) hK hP hD hS hA 8 (by decide) (by decide) (by decide) (Nat.le_of_ble_eq_true rfl) (Nat.le_of_ble_eq_true rfl) dd_X10_132 (fun q14 H hP hD hS => ?_)
  have hP : va_P D vwCl [(h0, .inr (9, [.int 4, .int 0, .int 5, .int 1, .int 0, .int 5, .ref q1, .ref q2, .ref q3, .ref q4, .ref q5, .int 0, .ref q6, .int 0, .ref q7, .int 0, .ref q8, .ref q9, .ref q10, .ref q11, .ref q12, .int 0, .int 0, .ref q13, .null, .null, .null])), (q1, .inl (cI, 48, .inl zr)), (q2, .inl (cI, 6, .inl zr)), (q3, .inl (cI, 6, .inl zr)), (q4, .inl (cI, 6, .inl zr)), (q5, .inl (cI, 8, .inl zr)), (q6, .inl (cI, 18, .inl zr)), (q7, .inl (cI, 48, .inl zr)), (q8, .inl (cI, 8, .inl zr)), (q9, .inl (cI, 8, .inl zr)), (q10, .inl (cI, 8, .inl zr)), (q11, .inl (cI, 8, .inl zr)), (q12, .inl (cI, 8, .inl zr)), (q13, .inl (cI, 200, .inl zr)), (q14, .inl (cI, 8, .inl zr))] H := hP
  have hD : va_D A [(h0, .inr (9, [.int 4, .int 0, .int 5, .int 1, .int 0, .int 5, .ref q1, .ref q2, .ref q3, .ref q4, .ref q5, .int 0, .ref q6, .int 0, .ref q7, .int 0, .ref q8, .ref q9, .ref q10, .ref q11, .ref q12, .int 0, .int 0, .ref q13, .null, .null, .null])), (q1, .inl (cI, 48, .inl zr)), (q2, .inl (cI, 6, .inl zr)), (q3, .inl (cI, 6, .inl zr)), (q4, .inl (cI, 6, .inl zr)), (q5, .inl (cI, 8, .inl zr)), (q6, .inl (cI, 18, .inl zr)), (q7, .inl (cI, 48, .inl zr)), (q8, .inl (cI, 8, .inl zr)), (q9, .inl (cI, 8, .inl zr)), (q10, .inl (cI, 8, .inl zr)), (q11, .inl (cI, 8, .inl zr)), (q12, .inl (cI, 8, .inl zr)), (q13, .inl (cI, 200, .inl zr)), (q14, .inl (cI, 8, .inl zr))] := hD
  refine va_putF (D := D) (ci := 9) (v := .ref q14) (ty := .array .int) (C := RX10) (T := TX10) (N := 27) hx hb hts iX10 tyX10 tyX10_ok nmX10 hown hK hP hD hS 0 rfl rfl 24 (by decide) (hts _ (mg 692 (by decide +kernel))) (fun _ h9 => h9) rfl hin rfl (by decide +kernel) rfl rfl (Nat.le_of_ble_eq_true rfl) dd_X10_134 (fun H locs hP hD hS => ?_)
  have hP : va_P D vwCl [(h0, .inr (9, [.int 4, .int 0, .int 5, .int 1, .int 0, .int 5, .ref q1, .ref q2, .ref q3, .ref q4, .ref q5, .int 0, .ref q6, .int 0, .ref q7, .int 0, .ref q8, .ref q9, .ref q10, .ref q11, .ref q12, .int 0, .int 0, .ref q13, .ref q14, .null, .null])), (q1, .inl (cI, 48, .inl zr)), (q2, .inl (cI, 6, .inl zr)), (q3, .inl (cI, 6, .inl zr)), (q4, .inl (cI, 6, .inl zr)), (q5, .inl (cI, 8, .inl zr)), (q6, .inl (cI, 18, .inl zr)), (q7, .inl (cI, 48, .inl zr)), (q8, .inl (cI, 8, .inl zr)), (q9, .inl (cI, 8, .inl zr)), (q10, .inl (cI, 8, .inl zr)), (q11, .inl (cI, 8, .inl zr)), (q12, .inl (cI, 8, .inl zr)), (q13, .inl (cI, 200, .inl zr)), (q14, .inl (cI, 8, .inl zr))] H := hP
  have hD : va_D A [(h0, .inr (9, [.int 4, .int 0, .int 5, .int 1, .int 0, .int 5, .ref q1, .ref q2, .ref q3, .ref q4, .ref q5, .int 0, .ref q6, .int 0, .ref q7, .int 0, .ref q8, .ref q9, .ref q10, .ref q11, .ref q12, .int 0, .int 0, .ref q13, .ref q14, .null, .null])), (q1, .inl (cI, 48, .inl zr)), (q2, .inl (cI, 6, .inl zr)), (q3, .inl (cI, 6, .inl zr)), (q4, .inl (cI, 6, .inl zr)), (q5, .inl (cI, 8, .inl zr)), (q6, .inl (cI, 18, .inl zr)), (q7, .inl (cI, 48, .inl zr)), (q8, .inl (cI, 8, .inl zr)), (q9, .inl (cI, 8, .inl zr)), (q10, .inl (cI, 8, .inl zr)), (q11, .inl (cI, 8, .inl zr)), (q12, .inl (cI, 8, .inl zr)), (q13, .inl (cI, 200, .inl zr)), (q14, .inl (cI, 8, .inl zr))] := hD
  refine lv_aload_n hx hb dd_X10_137 rfl (lv_at hl 0 rfl) ?_
  refine lv_sipush (v := 200) hx hb dd_X10_138 (by decide) ?_
  refine nwI (D := D) (cI := cI) (cB := cB) hx hb (hts _ (mg 60 (by decide +kernel))) hK hP hD hS hA 200 (by decide) (by decide) (by decide) (Nat.le_of_ble_eq_true rfl) (Nat.le_of_ble_eq_true rfl) dd_X10_141 (fun q15 H hP hD hS => ?_)
  have hP : va_P D vwCl [(h0, .inr (9, [.int 4, .int 0, .int 5, .int 1, .int 0, .int 5, .ref q1, .ref q2, .ref q3, .ref q4, .ref q5, .int 0, .ref q6, .int 0, .ref q7, .int 0, .ref q8, .ref q9, .ref q10, .ref q11, .ref q12, .int 0, .int 0, .ref q13, .ref q14, .null, .null])), (q1, .inl (cI, 48, .inl zr)), (q2, .inl (cI, 6, .inl zr)), (q3, .inl (cI, 6, .inl zr)), (q4, .inl (cI, 6, .inl zr)), (q5, .inl (cI, 8, .inl zr)), (q6, .inl (cI, 18, .inl zr)), (q7, .inl (cI, 48, .inl zr)), (q8, .inl (cI, 8, .inl zr)), (q9, .inl (cI, 8, .inl zr)), (q10, .inl (cI, 8, .inl zr)), (q11, .inl (cI, 8, .inl zr)), (q12, .inl (cI, 8, .inl zr)), (q13, .inl (cI, 200, .inl zr)), (q14, .inl (cI, 8, .inl zr)), (q15, .inl (cI, 200, .inl zr))] H := hP
  have hD : va_D A [(h0, .inr (9, [.int 4, .int 0, .int 5, .int 1, .int 0, .int 5, .ref q1, .ref q2, .ref q3, .ref q4, .ref q5, .int 0, .ref q6, .int 0, .ref q7, .int 0, .ref q8, .ref q9, .ref q10, .ref q11, .ref q12, .int 0, .int 0, .ref q13, .ref q14, .null, .null])), (q1, .inl (cI, 48, .inl zr)), (q2, .inl (cI, 6, .inl zr)), (q3, .inl (cI, 6, .inl zr)), (q4, .inl (cI, 6, .inl zr)), (q5, .inl (cI, 8, .inl zr)), (q6, .inl (cI, 18, .inl zr)), (q7, .inl (cI, 48, .inl zr)), (q8, .inl (cI, 8, .inl zr)), (q9, .inl (cI, 8, .inl zr)), (q10, .inl (cI, 8, .inl zr)), (q11, .inl (cI, 8, .inl zr)), (q12, .inl (cI, 8, .inl zr)), (q13, .inl (cI, 200, .inl zr)), (q14, .inl (cI, 8, .inl zr)), (q15, .inl (cI, 200, .inl zr))] := hD
  refine va_putF (D := D) (ci := 9) (v := .ref q15) (ty := .array .int) (C := RX10) (T := TX10) (N := 27) hx hb hts iX10 tyX10 tyX10_ok nmX10 hown hK hP hD hS 0 rfl rfl 25 (by decide) (hts _ (mg 693 (by decide +kernel))) (fun _ h9 => h9) rfl hin rfl (by decide +kernel) rfl rfl (Nat.le_of_ble_eq_true rfl) dd_X10_143 (fun H locs hP hD hS => ?_)
  have hP : va_P D vwCl [(h0, .inr (9, [.int 4, .int 0, .int 5, .int 1, .int 0, .int 5, .ref q1, .ref q2, .ref q3, .ref q4, .ref q5, .int 0, .ref q6, .int 0, .ref q7, .int 0, .ref q8, .ref q9, .ref q10, .ref q11, .ref q12, .int 0, .int 0, .ref q13, .ref q14, .ref q15, .null])), (q1, .inl (cI, 48, .inl zr)), (q2, .inl (cI, 6, .inl zr)), (q3, .inl (cI, 6, .inl zr)), (q4, .inl (cI, 6, .inl zr)), (q5, .inl (cI, 8, .inl zr)), (q6, .inl (cI, 18, .inl zr)), (q7, .inl (cI, 48, .inl zr)), (q8, .inl (cI, 8, .inl zr)), (q9, .inl (cI, 8, .inl zr)), (q10, .inl (cI, 8, .inl zr)), (q11, .inl (cI, 8, .inl zr)), (q12, .inl (cI, 8, .inl zr)), (q13, .inl (cI, 200, .inl zr)), (q14, .inl (cI, 8, .inl zr)), (q15, .inl (cI, 200, .inl zr))] H := hP
  have hD : va_D A [(h0, .inr (9, [.int 4, .int 0, .int 5, .int 1, .int 0, .int 5, .ref q1, .ref q2, .ref q3, .ref q4, .ref q5, .int 0, .ref q6, .int 0, .ref q7, .int 0, .ref q8, .ref q9, .ref q10, .ref q11, .ref q12, .int 0, .int 0, .ref q13, .ref q14, .ref q15, .null])), (q1, .inl (cI, 48, .inl zr)), (q2, .inl (cI, 6, .inl zr)), (q3, .inl (cI, 6, .inl zr)), (q4, .inl (cI, 6, .inl zr)), (q5, .inl (cI, 8, .inl zr)), (q6, .inl (cI, 18, .inl zr)), (q7, .inl (cI, 48, .inl zr)), (q8, .inl (cI, 8, .inl zr)), (q9, .inl (cI, 8, .inl zr)), (q10, .inl (cI, 8, .inl zr)), (q11, .inl (cI, 8, .inl zr)), (q12, .inl (cI, 8, .inl zr)), (q13, .inl (cI, 200, .inl zr)), (q14, .inl (cI, 8, .inl zr)), (q15, .inl (cI, 200, .inl zr))] := hD
  refine lv_aload_n hx hb dd_X10_146 rfl (lv_at hl 0 rfl) ?_
  refine lv_iconst (v := 2) hx hb dd_X10_147 (by decide) ?_
  refine nwB (D := D) (cI := cI) (cB := cB) hx hb (hts _ (mg 750 (by decide +kernel))) hK hP hD hS hA 2 (by decide) (by decide) (by decide) (Nat.le_of_ble_eq_true rfl) (Nat.le_of_ble_eq_true rfl) dd_X10_148 (fun q16 H hP hD hS => ?_)
  have hP : va_P D vwCl [(h0, .inr (9, [.int 4, .int 0, .int 5, .int 1, .int 0, .int 5, .ref q1, .ref q2, .ref q3, .ref q4, .ref q5, .int 0, .ref q6, .int 0, .ref q7, .int 0, .ref q8, .ref q9, .ref q10, .ref q11, .ref q12, .int 0, .int 0, .ref q13, .ref q14, .ref q15, .null])), (q1, .inl (cI, 48, .inl zr)), (q2, .inl (cI, 6, .inl zr)), (q3, .inl (cI, 6, .inl zr)), (q4, .inl (cI, 6, .inl zr)), (q5, .inl (cI, 8, .inl zr)), (q6, .inl (cI, 18, .inl zr)), (q7, .inl (cI, 48, .inl zr)), (q8, .inl (cI, 8, .inl zr)), (q9, .inl (cI, 8, .inl zr)), (q10, .inl (cI, 8, .inl zr)), (q11, .inl (cI, 8, .inl zr)), (q12, .inl (cI, 8, .inl zr)), (q13, .inl (cI, 200, .inl zr)), (q14, .inl (cI, 8, .inl zr)), (q15, .inl (cI, 200, .inl zr)), (q16, .inl (cB, 2, .inl zr))] H := hP
  have hD : va_D A [(h0, .inr (9, [.int 4, .int 0, .int 5, .int 1, .int 0, .int 5, .ref q1, .ref q2, .ref q3, .ref q4, .ref q5, .int 0, .ref q6, .int 0, .ref q7, .int 0, .ref q8, .ref q9, .ref q10, .ref q11, .ref q12, .int 0, .int 0, .ref q13, .ref q14, .ref q15, .null])), (q1, .inl (cI, 48, .inl zr)), (q2, .inl (cI, 6, .inl zr)), (q3, .inl (cI, 6, .inl zr)), (q4, .inl (cI, 6, .inl zr)), (q5, .inl (cI, 8, .inl zr)), (q6, .inl (cI, 18, .inl zr)), (q7, .inl (cI, 48, .inl zr)), (q8, .inl (cI, 8, .inl zr)), (q9, .inl (cI, 8, .inl zr)), (q10, .inl (cI, 8, .inl zr)), (q11, .inl (cI, 8, .inl zr)), (q12, .inl (cI, 8, .inl zr)), (q13, .inl (cI, 200, .inl zr)), (q14, .inl (cI, 8, .inl zr)), (q15, .inl (cI, 200, .inl zr)), (q16, .inl (cB, 2, .inl zr))] := hD
  refine va_putF (D := D) (ci := 9) (v := .ref q16) (ty := .array .boolean) (C := RX10) (T := TX10) (N := 27) hx hb hts iX10 tyX10 tyX10_ok nmX10 hown hK hP hD hS 0 rfl rfl 26 (by decide) (hts _ (mg 694 (by decide +kernel))) (fun _ h9 => h9) rfl hin rfl (by decide +kernel) rfl rfl (Nat.le_of_ble_eq_true rfl) dd_X10_150 (fun H locs hP hD hS => ?_)
  have hP : va_P D vwCl [(h0, .inr (9, [.int 4, .int 0, .int 5, .int 1, .int 0, .int 5, .ref q1, .ref q2, .ref q3, .ref q4, .ref q5, .int 0, .ref q6, .int 0, .ref q7, .int 0, .ref q8, .ref q9, .ref q10, .ref q11, .ref q12, .int 0, .int 0, .ref q13, .ref q14, .ref q15, .ref q16])), (q1, .inl (cI, 48, .inl zr)), (q2, .inl (cI, 6, .inl zr)), (q3, .inl (cI, 6, .inl zr)), (q4, .inl (cI, 6, .inl zr)), (q5, .inl (cI, 8, .inl zr)), (q6, .inl (cI, 18, .inl zr)), (q7, .inl (cI, 48, .inl zr)), (q8, .inl (cI, 8, .inl zr)), (q9, .inl (cI, 8, .inl zr)), (q10, .inl (cI, 8, .inl zr)), (q11, .inl (cI, 8, .inl zr)), (q12, .inl (cI, 8, .inl zr)), (q13, .inl (cI, 200, .inl zr)), (q14, .inl (cI, 8, .inl zr)), (q15, .inl (cI, 200, .inl zr)), (q16, .inl (cB, 2, .inl zr))] H := hP
  have hD : va_D A [(h0, .inr (9, [.int 4, .int 0, .int 5, .int 1, .int 0, .int 5, .ref q1, .ref q2, .ref q3, .ref q4, .ref q5, .int 0, .ref q6, .int 0, .ref q7, .int 0, .ref q8, .ref q9, .ref q10, .ref q11, .ref q12, .int 0, .int 0, .ref q13, .ref q14, .ref q15, .ref q16])), (q1, .inl (cI, 48, .inl zr)), (q2, .inl (cI, 6, .inl zr)), (q3, .inl (cI, 6, .inl zr)), (q4, .inl (cI, 6, .inl zr)), (q5, .inl (cI, 8, .inl zr)), (q6, .inl (cI, 18, .inl zr)), (q7, .inl (cI, 48, .inl zr)), (q8, .inl (cI, 8, .inl zr)), (q9, .inl (cI, 8, .inl zr)), (q10, .inl (cI, 8, .inl zr)), (q11, .inl (cI, 8, .inl zr)), (q12, .inl (cI, 8, .inl zr)), (q13, .inl (cI, 200, .inl zr)), (q14, .inl (cI, 8, .inl zr)), (q15, .inl (cI, 200, .inl zr)), (q16, .inl (cB, 2, .inl zr))] := hD
  refine lv_aload_n hx hb dd_X10_153 rfl (lv_at hl 0 rfl) ?_
  have hPc := hP.sub (ws' := [(h0, .inr (9, [.int 4, .int 0, .int 5, .int 1, .int 0, .int 5, .ref q1, .ref q2, .ref q3, .ref q4, .ref q5, .int 0, .ref q6, .int 0, .ref q7, .int 0, .ref q8, .ref q9, .ref q10, .ref q11, .ref q12, .int 0, .int 0, .ref q13, .ref q14, .ref q15, .ref q16])), (q2, .inl (cI, 6, .inl zr)), (q3, .inl (cI, 6, .inl zr)), (q4, .inl (cI, 6, .inl zr)), (q5, .inl (cI, 8, .inl zr))]) [0, 2, 3, 4, 5] rfl
  have hDc := hD.sub (ws' := [(h0, .inr (9, [.int 4, .int 0, .int 5, .int 1, .int 0, .int 5, .ref q1, .ref q2, .ref q3, .ref q4, .ref q5, .int 0, .ref q6, .int 0, .ref q7, .int 0, .ref q8, .ref q9, .ref q10, .ref q11, .ref q12, .int 0, .int 0, .ref q13, .ref q14, .ref q15, .ref q16])), (q2, .inl (cI, 6, .inl zr)), (q3, .inl (cI, 6, .inl zr)), (q4, .inl (cI, 6, .inl zr)), (q5, .inl (cI, 8, .inl zr))]) [0, 2, 3, 4, 5] (by decide) rfl
  have hFc := va_free (wc := [(h0, .inr (9, [.int 4, .int 0, .int 5, .int 1, .int 0, .int 5, .ref q1, .ref q2, .ref q3, .ref q4, .ref q5, .int 0, .ref q6, .int 0, .ref q7, .int 0, .ref q8, .ref q9, .ref q10, .ref q11, .ref q12, .int 0, .int 0, .ref q13, .ref q14, .ref q15, .ref q16])), (q2, .inl (cI, 6, .inl zr)), (q3, .inl (cI, 6, .inl zr)), (q4, .inl (cI, 6, .inl zr)), (q5, .inl (cI, 8, .inl zr))]) hD hS hA [0, 2, 3, 4, 5] rfl
  have fp := f_X10_plain
  refine va_callv (va_runV (As := []) (b := h0) (rest := []) (C := RX10) (n := 0) ⟨hx, hb, hml, hown, hts⟩ (pl_X10 l D cI cB h0 q2 q3 q4 q5 (.ref q1) (.ref q6) (.ref q7) (.ref q8) (.ref q9) (.ref q10) (.ref q11) (.ref q12) (.ref q13) (.ref q14) (.ref q15) (.ref q16) H.size) ⟨callB_of 0 hts (goodIn_g fp.1.1) rfl rfl rfl (hts _ fp.1.2) (hts _ (mg 664 (by decide +kernel))) ⟨fp.2.1.1, fp.2.1.2, fp.2.2.1⟩ ⟨Nat.le_of_ble_eq_true rfl, Nat.le_of_ble_eq_true rfl⟩, hts _ fp.2.2.2.2.1, hts _ fp.2.2.2.2.2.1⟩ ⟨fun a U g mk z => by obtain ⟨q0, q1, qP, qK, qD⟩ := z; exact ⟨q0, q1, qP, va_K.moved (u := U) (U := U.calling g mk a) (Vm.Alike.refl U.vm) qK, qD⟩, va_recv hK hPc (ci := 9) (q0 := 0) rfl rfl, fun U hU hW => ⟨rfl, by rw [hU], by rw [hU]; exact hPc, va_K.moved hW.alike hK, hDc.weaken (fun _ _ _ _ => trivial)⟩⟩ rfl rfl hl.1 rfl (lv_room (Nat.le_of_ble_eq_true rfl)) dd_X10_154 ⟨Nat.le_of_ble_eq_true rfl, Nat.le_of_ble_eq_true rfl⟩) hS (fun z _ h => hFc z h) hFc (fun u t H1 locs1 ht hvm hw hB hz1 hk1 hS => ?_)
  obtain ⟨hP1, hD1⟩ := hB
  rw [ht] at hP1
  obtain ⟨hP, hD⟩ := va_join (wr := [(q1, .inl (cI, 48, .inl zr)), (q6, .inl (cI, 18, .inl zr)), (q7, .inl (cI, 48, .inl zr)), (q8, .inl (cI, 8, .inl zr)), (q9, .inl (cI, 8, .inl zr)), (q10, .inl (cI, 8, .inl zr)), (q11, .inl (cI, 8, .inl zr)), (q12, .inl (cI, 8, .inl zr)), (q13, .inl (cI, 200, .inl zr)), (q14, .inl (cI, 8, .inl zr)), (q15, .inl (cI, 200, .inl zr)), (q16, .inl (cB, 2, .inl zr))]) (w1 := [(h0, .inr (9, [.int 4, .int 0, .int 5, .int 1, .int 0, .int 5, .ref q1, .ref q2, .ref q3, .ref q4, .ref q5, .int 0, .ref q6, .int 0, .ref q7, .int 0, .ref q8, .ref q9, .ref q10, .ref q11, .ref q12, .int 0, .int 0, .ref q13, .ref q14, .ref q15, .ref q16])), (q2, .inl (cI, 6, .inl fO6)), (q3, .inl (cI, 6, .inl zr)), (q4, .inl (cI, 6, .inl zr)), (q5, .inl (cI, 8, .inl zr))]) hP hD [0, 2, 3, 4, 5] [1, 6, 7, 8, 9, 10, 11, 12, 13, 14, 15, 16] rfl rfl (by decide) (by decide) hk1 hFc hP1 hD1
  generalize H1 = H at hP hS ⊢
  have hP := hP.sub (ws' := [(h0, .inr (9, [.int 4, .int 0, .int 5, .int 1, .int 0, .int 5, .ref q1, .ref q2, .ref q3, .ref q4, .ref q5, .int 0, .ref q6, .int 0, .ref q7, .int 0, .ref q8, .ref q9, .ref q10, .ref q11, .ref q12, .int 0, .int 0, .ref q13, .ref q14, .ref q15, .ref q16])), (q1, .inl (cI, 48, .inl zr)), (q2, .inl (cI, 6, .inl fO6)), (q3, .inl (cI, 6, .inl zr)), (q4, .inl (cI, 6, .inl zr)), (q5, .inl (cI, 8, .inl zr)), (q6, .inl (cI, 18, .inl zr)), (q7, .inl (cI, 48, .inl zr)), (q8, .inl (cI, 8, .inl zr)), (q9, .inl (cI, 8, .inl zr)), (q10, .inl (cI, 8, .inl zr)), (q11, .inl (cI, 8, .inl zr)), (q12, .inl (cI, 8, .inl zr)), (q13, .inl (cI, 200, .inl zr)), (q14, .inl (cI, 8, .inl zr)), (q15, .inl (cI, 200, .inl zr)), (q16, .inl (cB, 2, .inl zr))]) [12, 0, 13, 14, 15, 16, 1, 2, 3, 4, 5, 6, 7, 8, 9, 10, 11] rfl
  have hD := hD.sub (ws' := [(h0, .inr (9, [.int 4, .int 0, .int 5, .int 1, .int 0, .int 5, .ref q1, .ref q2, .ref q3, .ref q4, .ref q5, .int 0, .ref q6, .int 0, .ref q7, .int 0, .ref q8, .ref q9, .ref q10, .ref q11, .ref q12, .int 0, .int 0, .ref q13, .ref q14, .ref q15, .ref q16])), (q1, .inl (cI, 48, .inl zr)), (q2, .inl (cI, 6, .inl fO6)), (q3, .inl (cI, 6, .inl zr)), (q4, .inl (cI, 6, .inl zr)), (q5, .inl (cI, 8, .inl zr)), (q6, .inl (cI, 18, .inl zr)), (q7, .inl (cI, 48, .inl zr)), (q8, .inl (cI, 8, .inl zr)), (q9, .inl (cI, 8, .inl zr)), (q10, .inl (cI, 8, .inl zr)), (q11, .inl (cI, 8, .inl zr)), (q12, .inl (cI, 8, .inl zr)), (q13, .inl (cI, 200, .inl zr)), (q14, .inl (cI, 8, .inl zr)), (q15, .inl (cI, 200, .inl zr)), (q16, .inl (cB, 2, .inl zr))]) [12, 0, 13, 14, 15, 16, 1, 2, 3, 4, 5, 6, 7, 8, 9, 10, 11] (by decide) rfl
  have hfin : ([(h0, .inr (9, [.int 4, .int 0, .int 5, .int 1, .int 0, .int 5, .ref q1, .ref q2, .ref q3, .ref q4, .ref q5, .int 0, .ref q6, .int 0, .ref q7, .int 0, .ref q8, .ref q9, .ref q10, .ref q11, .ref q12, .int 0, .int 0, .ref q13, .ref q14, .ref q15, .ref q16])), (q1, .inl (cI, 48, .inl zr)), (q2, .inl (cI, 6, .inl fO6)), (q3, .inl (cI, 6, .inl zr)), (q4, .inl (cI, 6, .inl zr)), (q5, .inl (cI, 8, .inl zr)), (q6, .inl (cI, 18, .inl zr)), (q7, .inl (cI, 48, .inl zr)), (q8, .inl (cI, 8, .inl zr)), (q9, .inl (cI, 8, .inl zr)), (q10, .inl (cI, 8, .inl zr)), (q11, .inl (cI, 8, .inl zr)), (q12, .inl (cI, 8, .inl zr)), (q13, .inl (cI, 200, .inl zr)), (q14, .inl (cI, 8, .inl zr)), (q15, .inl (cI, 200, .inl zr)), (q16, .inl (cB, 2, .inl zr))] : va_W) = wlg (fun c => [h0, q1, q2, q3, q4, q5, q6, q7, q8, q9, q10, q11, q12, q13, q14, q15, q16].getD c 0) cI cB mu10 ly10 := by
    simp only [wlg_r]
    rfl
  rw [hfin] at hP hD
  refine W.widen (k := 16) (n := 590) (Nat.le_of_ble_eq_true rfl) (Nat.le_of_ble_eq_true rfl) ?_
  exact W.vret hx hb hr (fun t ht hW => ⟨⟨_, rfl, rfl, by rw [ht]; exact hP, hD⟩, hS.F ht⟩) hS.2.2 dd_X10_157
