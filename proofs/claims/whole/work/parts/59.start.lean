/-! THE CLAIM OUT OF ONE WALK OF THE LAW'S BODY. Your part is whole_start (and what it stands on); all else here is the same for every law, but numbers. -/
def R_law : String := "ActsPaidLaw"
def lw_P (b : Addr) (xs : List Int32) (args : Array Value) (s : State) : Prop := args = #[.ref b] ∧ s.IntsAt b xs ∧ xs.length ≤ 2048 ∧ (Jvm.Cond.and given_1 narrow_1).before args s = true
def lw_Q (_ : Array Value) (s : State) (o : Outcome) (t : State) : Prop := o = .returned (some (.int 1)) ∧ Framed s o t [] 72 3392
def lw_Z (below : List Frame) (a : Array Value) (s : State) : State → Prop := fun t => ∃ o, t.status = .running ∧ Ended t below o ∧ lw_Q a s o t
/-- the law's own end, with 1 on the stack, nothing written that was there before, its room as the claim has it -/
theorem lw_ret {p : Program} {l : Launch} {e : Env} {s : State} {m : MethodId} {below : List Frame} {meth : Method} {c : Code} {b : Nat} (hx : p.tables.exec = Jvm.exec) (hb : c.code = code) (hr : meth.sig.returnType = ret) (hlocks : meth.locks = false) {pc : Nat} {H : Heap} {ls : Array Slot} (hdg : decode code pc = .ok (.ireturn, 1)) : W p l e room_1 s m #[Value.ref b] below meth c H [] 72 3392 (lw_Z below #[Value.ref b] s) (F0 m pc ls [.int 1]) := by
  intro T hT X
  obtain ⟨fs, hret, hrun, hended, hW, hframe⟩ := X.leave (v := some (.int 1)) (hlocks := hlocks) (fun h => by rw [hr] at h; cases h)
  have hmeth' : T.vm.method? m = some meth := X.method'
  refine ⟨T.setFrames fs, ?_, .returned (some (.int 1)), hrun, hended, rfl, ⟨_, rfl⟩, hW, hframe⟩
  jvm_step X.here [X.here.top, hx, hb, hdg, hmeth', hr, ret, narrow_b1]
  (try refine ⟨rfl, ?_⟩); (try refine ⟨rfl, ?_⟩)
  first | (intro acts; rw [hret _ acts rfl rfl rfl]) | rw [hret _ _ rfl rfl rfl]
  exact Steps.refl _
/-- what holds at the law's entry: the machine, the code, the tables' words (any of lw_tbl by 'hts w (by decide +kernel)'), the script of L ints xs at the cell b, what the Statement gives of the start (any of its parts by flat_of_before) -/
def lw_At (p : Program) (s : State) (m : MethodId) (meth : Method) (c : Code) (b L : Nat) (xs : Nat → Int32) : Prop :=
  p.tables.exec = Jvm.exec ∧ c.code = code ∧ meth.sig.returnType = ret ∧ c.maxLocals = 4 ∧ s.vm.findClass R_law = some m.cls ∧ (∀ w ∈ lw_tbl, w.before #[Value.ref b] s = true) ∧ va_X b L xs s s.heap ∧ b < s.heap.size ∧ meth.locks = false ∧ (Jvm.Cond.and given_1 narrow_1).before #[Value.ref b] s = true
/-! ===== the law's start ===== -/
theorem dl_0 : decode code 0 = .ok (.new 7, 3) := by decide +kernel
theorem dl_3 : decode code 3 = .ok (.dup, 1) := by decide +kernel
theorem dl_4 : decode code 4 = .ok (.invokespecial 9, 3) := by decide +kernel
theorem dl_7 : decode code 7 = .ok (.astore_n 1, 1) := by decide +kernel
theorem dl_8 : decode code 8 = .ok (.new 10, 3) := by decide +kernel
theorem dl_11 : decode code 11 = .ok (.dup, 1) := by decide +kernel
theorem dl_12 : decode code 12 = .ok (.invokespecial 12, 3) := by decide +kernel
theorem dl_15 : decode code 15 = .ok (.astore_n 2, 1) := by decide +kernel
theorem dl_16 : decode code 16 = .ok (.iconst 0, 1) := by decide +kernel
theorem dl_17 : decode code 17 = .ok (.istore_n 3, 1) := by decide +kernel
def muW : Mm := fun c => if c < 55 then mu9 c else mu10 (c - 55)
def ad0 (u w : Nat → Nat) : Nat → Nat := fun c => if c < 55 then u c else w (c - 55)
theorem ly_app : lyL = ly9 ++ ly10 := by decide +kernel
set_option maxHeartbeats 1000000 in
set_option maxRecDepth 100000 in
theorem wl_0 {u w : Nat → Nat} {cI cB : Nat} : wl (ad0 u w) cI cB muW = wlg u cI cB mu9 ly9 ++ wlg w cI cB mu10 ly10 := by
  rw [wlg_wl, ly_app, wlg_app]
  have h1 : wlg (ad0 u w) cI cB muW ly9 = wlg u cI cB mu9 ly9 := by
    simp only [wlg_r]
    rfl
  have hl : ly9.length = 55 := rfl
  have h2 : (fun c => ad0 u w (c + 55)) = w := funext fun c => by
    unfold ad0
    rw [if_neg (by omega), Nat.add_sub_cancel]
  have h3 : (fun c => muW (c + 55)) = mu10 := funext fun c => by
    unfold muW
    rw [if_neg (by omega), Nat.add_sub_cancel]
  rw [h1, hl, h2, h3]
theorem fOr_at : ∀ j, j < 6 → fOr j = nI j := by decide +kernel
theorem Rl_0 : Rl muW := by
  refine Rl_mk ⟨4, by omega, by omega, rfl, rfl⟩ ⟨0, by omega, rfl, rfl⟩ ⟨5, by omega, rfl, rfl⟩ ⟨1, by omega, rfl, rfl⟩ ⟨0, by omega, rfl, rfl⟩ ⟨5, by omega, rfl, rfl⟩ ⟨0, by omega, rfl, rfl⟩ (fun i _ => rfl) (fun j hj => ⟨j, hj, ?_, ?_⟩) (fun _ _ => rfl) ⟨fun _ _ => rfl, ?_⟩ (fun _ _ => ⟨rfl, rfl, rfl⟩) ⟨rfl, ⟨0, by omega, rfl⟩, fun _ _ => rfl⟩ ?_ ⟨⟨rfl, zb0, fun z => ?_⟩, ⟨rfl, zb0, fun z => ?_⟩⟩
  · show fOr j = nI j
    exact fOr_at j hj
  · show fO6 j = nI j
    exact Fi_lt hj
  · refine ⟨fun g _ => ⟨0, by omega, rfl⟩, fun g h _ _ => ?_, fun g _ => ?_⟩
    · show bb 0 h = bb 0 g
      rw [bb0, bb0]
    · show bb 0 g = false
      exact bb0
  · show Pm (muW 55 0).toNatClampNeg (muW 7) (muW 58)
    exact Pm_0 (fun _ _ => rfl) (fun _ _ => rfl)
  · exact absurd z (show ¬ (0 : Int32) = 1 by decide)
  · exact absurd z (show ¬ (0 : Int32) = 1 by decide)
theorem kn_ex {s : State} {args : Array Value} (hts : ∀ w ∈ lw_g, w.before args s = true) : ∀ k : Nat, ∃ x : ClassId × (Nat → Nat), ∀ q : vw_C, vwCl[k]? = some q → u_Kn s q.1 q.2.1 q.2.2 x.1 x.2
  | 0 => by
    obtain ⟨c0, i0, h⟩ := u_known (C := RX0) (T := TX0) (N := 1) (n := 1) hts iX0 (hts (.instantiable RX0 1) (mg 217 (by decide +kernel)))
    exact ⟨(c0, i0), fun q hq => by cases hq; exact h⟩
  | 1 => by
    obtain ⟨c0, i0, h⟩ := u_known (C := RX1) (T := TX1) (N := 6) (n := 6) hts iX1 (hts (.instantiable RX1 6) (mg 188 (by decide +kernel)))
    exact ⟨(c0, i0), fun q hq => by cases hq; exact h⟩
  | 2 => by
    obtain ⟨c0, i0, h⟩ := u_known (C := RX2) (T := TX2) (N := 2) (n := 2) hts iX2 (hts (.instantiable RX2 2) (mg 149 (by decide +kernel)))
    exact ⟨(c0, i0), fun q hq => by cases hq; exact h⟩
  | 3 => by
    obtain ⟨c0, i0, h⟩ := u_known (C := RX3) (T := TX3) (N := 2) (n := 2) hts iX3 (hts (.instantiable RX3 2) (mg 47 (by decide +kernel)))
    exact ⟨(c0, i0), fun q hq => by cases hq; exact h⟩
  | 4 => by
    obtain ⟨c0, i0, h⟩ := u_known (C := RX4) (T := TX4) (N := 1) (n := 1) hts iX4 (hts (.instantiable RX4 1) (mg 165 (by decide +kernel)))
    exact ⟨(c0, i0), fun q hq => by cases hq; exact h⟩
  | 5 => by
    obtain ⟨c0, i0, h⟩ := u_known (C := RX6) (T := TX6) (N := 2) (n := 2) hts iX6 (hts (.instantiable RX6 2) (mg 175 (by decide +kernel)))
    exact ⟨(c0, i0), fun q hq => by cases hq; exact h⟩
  | 6 => by
    obtain ⟨c0, i0, h⟩ := u_known (C := RX7) (T := TX7) (N := 4) (n := 4) hts iX7 (hts (.instantiable RX7 4) (mg 68 (by decide +kernel)))
    exact ⟨(c0, i0), fun q hq => by cases hq; exact h⟩
  | 7 => by
    obtain ⟨c0, i0, h⟩ := u_known (C := RX8) (T := TX8) (N := 12) (n := 12) hts iX8 (hts (.instantiable RX8 12) (mg 62 (by decide +kernel)))
    exact ⟨(c0, i0), fun q hq => by cases hq; exact h⟩
  | 8 => by
    obtain ⟨c0, i0, h⟩ := u_known (C := RX9) (T := TX9) (N := 9) (n := 9) hts iX9 (hts (.instantiable RX9 9) (mg 39 (by decide +kernel)))
    exact ⟨(c0, i0), fun q hq => by cases hq; exact h⟩
  | 9 => by
    obtain ⟨c0, i0, h⟩ := u_known (C := RX10) (T := TX10) (N := 27) (n := 27) hts iX10 (hts (.instantiable RX10 27) (mg 659 (by decide +kernel)))
    exact ⟨(c0, i0), fun q hq => by cases hq; exact h⟩
  | k + 10 => ⟨(0, fun _ => 0), fun q hq => by simp [vwCl] at hq⟩
theorem arr_ex {s : State} {args : Array Value} {ty : FieldType} (hp : ∀ C, ty ≠ .object C) (h : (Cond.arrayClass ty).before args s = true) : ∃ cA : ClassId, ArrOfT s cA ty ∧ va_RA s cA ty := by
  obtain ⟨cA, kA, comp, h1, h2, h3⟩ := Cond.arrayClass_spec h
  refine ⟨cA, fun n z => ⟨fun k h => ?_, kA, h2, comp, h3⟩, ?_⟩
  · first | exact absurd h (hp _) | cases h
  · cases ty with
    | object C => exact absurd rfl (hp C)
    | _ => exact h1
theorem hfs_X9 : ∀ j, j < 9 → defaultValue (tyX9 j) = vp_V [.null, .null, .null, .null, .null, .null, .null, .null, .null] j
  | 0, _ => rfl
  | 1, _ => rfl
  | 2, _ => rfl
  | 3, _ => rfl
  | 4, _ => rfl
  | 5, _ => rfl
  | 6, _ => rfl
  | 7, _ => rfl
  | 8, _ => rfl
  | n + 9, h => absurd h (by omega)
theorem hfs_X10 : ∀ j, j < 27 → defaultValue (tyX10 j) = vp_V [.int 0, .int 0, .int 0, .int 0, .int 0, .int 0, .null, .null, .null, .null, .null, .int 0, .null, .int 0, .null, .int 0, .null, .null, .null, .null, .null, .int 0, .int 0, .null, .null, .null, .null] j
  | 0, _ => rfl
  | 1, _ => rfl
  | 2, _ => rfl
  | 3, _ => rfl
  | 4, _ => rfl
  | 5, _ => rfl
  | 6, _ => rfl
  | 7, _ => rfl
  | 8, _ => rfl
  | 9, _ => rfl
  | 10, _ => rfl
  | 11, _ => rfl
  | 12, _ => rfl
  | 13, _ => rfl
  | 14, _ => rfl
  | 15, _ => rfl
  | 16, _ => rfl
  | 17, _ => rfl
  | 18, _ => rfl
  | 19, _ => rfl
  | 20, _ => rfl
  | 21, _ => rfl
  | 22, _ => rfl
  | 23, _ => rfl
  | 24, _ => rfl
  | 25, _ => rfl
  | 26, _ => rfl
  | n + 27, h => absurd h (by omega)
set_option maxHeartbeats 1000000 in
set_option maxRecDepth 100000 in
theorem whole_start {p : Program} {e : Env} {s : State} {m : MethodId} {below : List Frame} {meth : Method} {c : Code} (l : Launch) (hflags : l.flags = flags0) {b L : Nat} {xs : Nat → Int32} (hL : L ≤ 2048) (C0 : lw_At p s m meth c b L xs) : W p l e room_1 s m #[Value.ref b] below meth c s.heap [] 0 0 (lw_Z below #[Value.ref b] s) (entryFrame m ([Value.ref b] : List Value).toArray 4) := by
  obtain ⟨hx, hb, hr, hml, hown0, hts, hX, hbl, hlocks, hgv⟩ := id C0
  have hown : s.vm.findClass RL = some m.cls := hown0
  have htg : ∀ w ∈ lw_g, w.before #[Value.ref b] s = true := fun w hw => hts w (List.mem_filter.mp hw).1
  have hN : nst s := nst_of hts
  obtain ⟨A, hAe⟩ : ∃ A : Nat → Prop, A = fun q : Nat => s.heap.size ≤ q := ⟨_, rfl⟩
  have hA : ∀ q : Nat, s.heap.size ≤ q → A q := fun q h => by rw [hAe]; exact h
  have hbA : ¬ A b := by rw [hAe]; exact Nat.not_le.mpr hbl
  obtain ⟨kf, hkf⟩ := Classical.axiomOfChoice (kn_ex htg)
  obtain ⟨cI, hcI⟩ := arr_ex (ty := .int) (fun C h => by cases h) (htg _ (mg 60 (by decide +kernel)))
  obtain ⟨cB, hcB⟩ := arr_ex (ty := .boolean) (fun C h => by cases h) (htg _ (mg 750 (by decide +kernel)))
  obtain ⟨D, hDe⟩ : ∃ D : va_G, D = (fun k => (kf k).1, fun k => (kf k).2) := ⟨_, rfl⟩
  have hK : va_K D vwCl (ty2 cI cB) s := by
    rw [hDe]
    refine ⟨fun k q hq => hkf k q hq, fun k q hq => ?_⟩
    match k, hq with
    | 0, hq => cases hq; exact hcI
    | 1, hq => cases hq; exact hcB
    | k + 2, hq => simp at hq
  have hS : va_S A s.heap s.heap [] := va_S.rf
  have hP : va_P D vwCl [] s.heap := fun k q h => by simp at h
  have hD : va_D A [] := ⟨fun i j p q h => by simp at h, fun k q h => by simp at h⟩
  have hl := lv_entry ([.ref b]) (n := 4) (Nat.le_of_ble_eq_true rfl)
  rw [lg_entry_eq]
  generalize (lg_sl ([.ref b]) ++ List.replicate (4 - (lg_sl ([.ref b])).length) Slot.unset).toArray = ls at hl ⊢
  have hl : lv_has ls 4 [(0, .ref b)] := hl
  refine mkC (ws := []) (own := RL) (C := RX9) (T := TX9) (N := 9) (ci := 8) (nL := 4) (D := D) (cI := cI) (cB := cB) (ic_X9 l) hx hb hml hown htg hK hP hD hS hA hl.1 rfl iX9 tyX9 tyX9_ok hfs_X9 (mg 38 (by decide +kernel)) (mg 39 (by decide +kernel)) (mg 25 (by decide +kernel)) (mem_g (i := 42) (by decide +kernel) rfl) (mg 40 (by decide +kernel)) (mg 41 (by decide +kernel)) ⟨rfl, rfl⟩ (by decide +kernel) ⟨rfl, rfl, Nat.le_of_ble_eq_true rfl, Nat.le_of_ble_eq_true rfl⟩ ⟨Nat.le_of_ble_eq_true rfl, Nat.le_of_ble_eq_true rfl⟩ (Nat.le_of_ble_eq_true rfl) dl_0 dl_3 dl_4 (fun q9 u H locs hu hP hD hS => ?_)
  rw [List.nil_append] at hP hD
  refine lv_astore_n (lv' := [(1, .ref q9), (0, .ref b)]) hx hb dl_7 rfl hl (by decide) rfl (fun ls hl => ?_)
  refine mkC (own := RL) (C := RX10) (T := TX10) (N := 27) (ci := 9) (nL := 4) (D := D) (cI := cI) (cB := cB) (ic_X10 l) hx hb hml hown htg hK hP hD hS hA hl.1 rfl iX10 tyX10 tyX10_ok hfs_X10 (mg 658 (by decide +kernel)) (mg 659 (by decide +kernel)) (mg 34 (by decide +kernel)) (mem_g (i := 662) (by decide +kernel) rfl) (mg 660 (by decide +kernel)) (mg 661 (by decide +kernel)) ⟨rfl, rfl⟩ (by decide +kernel) ⟨rfl, rfl, Nat.le_of_ble_eq_true rfl, Nat.le_of_ble_eq_true rfl⟩ ⟨Nat.le_of_ble_eq_true rfl, Nat.le_of_ble_eq_true rfl⟩ (Nat.le_of_ble_eq_true rfl) dl_8 dl_11 dl_12 (fun q10 w H locs hw hP hD hS => ?_)
  refine lv_astore_n (lv' := [(2, .ref q10), (1, .ref q9), (0, .ref b)]) hx hb dl_15 rfl hl (by decide) rfl (fun ls hl => ?_)
  refine lv_iconst (v := 0) hx hb dl_16 (by decide) ?_
  refine lv_istore_n (lv' := [(3, .int 0), (2, .ref q10), (1, .ref q9), (0, .ref b)]) hx hb dl_17 rfl hl (by decide) rfl (fun ls hl => ?_)
  subst hu
  subst hw
  rw [← wl_0] at hP hD
  refine W.widen (k := 72) (n := 3392) (Nat.le_of_ble_eq_true rfl) (Nat.le_of_ble_eq_true rfl) ?_
  have hT := law_run (L := L) (xs := xs) (K := fun v _ => v = mI 1) hL (fun _ => rfl) L 0 muW (by omega) Rl_0 (by omega)
  refine hT (Wt p l e room_1 s m #[Value.ref b] below meth c 72 3392 (lw_Z below #[Value.ref b] s) D (ad0 u w) b cI cB 4 true false A s.heap) ?_ H locs ls ⟨lv_sub hl [3, 2, 1, 0] rfl, rfl, fun _ i x h => ?_⟩ (all_cons rfl (all_cons ⟨rfl, by decide⟩ (all_cons ⟨rfl, by decide⟩ (all_cons trivial (fun v hv => by cases hv))))) (fun v hv => by cases hv) hP hS
  · intro pc L' S' μ hst
    unfold stp at hst
    cases ho : lk (e_L L xs).1 pc with
    | none => rw [ho] at hst; exact hst.elim
    | some o =>
      rw [ho] at hst
      have hc := List.all_eq_true.mp h_L _ (lk_mem ho)
      rw [Bool.and_eq_true] at hc
      obtain ⟨hd, hs⟩ := chk_dec hc.1
      refine opx_sound (K := fun v _ => v = mI 1) (own := RL) (E := e_L L xs) (nL := 4) (sc := true) hx hb hml hown htg hK hN hA (fun μ => wl_D hD μ) ⟨Nat.le_of_ble_eq_true rfl, Nat.le_of_ble_eq_true rfl⟩ (fun a ce hce => o_L l _ (lk_mem hce)) (fun _ => ⟨hX, hbl, hbA⟩) ?_ hd hs hc.2 (fun _ => ⟨Nat.le_of_ble_eq_true rfl, Nat.le_of_ble_eq_true rfl⟩) L' S' μ hst
      intro v μ2 H2 locs2 ls2 pc2 i hd2 hKv hPv hSv hwv hrk
      subst hKv
      obtain ⟨hi, x, hve, hz⟩ := (show i = .ireturn ∧ ∃ x, mI 1 = mI x ∧ zb x from hrk)
      subst hi
      refine va_forget (fun q hq => by have := hSv.2.2 q hq; rw [hAe] at this; exact this) ?_
      exact lw_ret hx hb hr hlocks hd2
  · match i, h with
    | 0, h => exact absurd (Option.some.inj h) (fun z => by cases z)
    | 1, h => exact absurd (Option.some.inj h) (fun z => by cases z)
    | 2, h => exact absurd (Option.some.inj h) (fun z => by cases z)
    | 3, h => exact absurd (Option.some.inj h) (fun z => by cases z)
    | i + 4, h => cases h
