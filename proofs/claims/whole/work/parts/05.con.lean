/-! ===== a method's contract, out of its table ===== -/
theorem en_len : ∀ (As : List MV) (n : Nat), ctS As ≤ n → (en As n).length = n
  | [], n, _ => by simp [en]
  | v :: vs, n, h => by
    match v, h with
    | .inl x, h =>
      have h : 1 + ctS vs ≤ n := h
      show (en vs (n - 1)).length + 1 = n
      rw [en_len vs (n - 1) (by omega)]; omega
    | .inr (.inl x), h =>
      have h : 2 + ctS vs ≤ n := h
      show (en vs (n - 2)).length + 1 + 1 = n
      rw [en_len vs (n - 2) (by omega)]; omega
    | .inr (.inr x), h =>
      have h : 1 + ctS vs ≤ n := h
      show (en vs (n - 1)).length + 1 = n
      rw [en_len vs (n - 1) (by omega)]; omega
theorem toL_rep {ad : Nat → Nat} {b : Nat} : ∀ (n i : Nat), toL ad b i (List.replicate n mU) = []
  | 0, _ => rfl
  | n + 1, i => by
    rw [List.replicate_succ]
    exact toL_rep n (i + 1)
theorem en_args {ad : Nat → Nat} {b : Nat} : ∀ (As : List MV) (n i : Nat) (q : Nat × Value), q ∈ toL ad b i (en As n) → q ∈ lv_args i (As.map (tv ad b))
  | [], n, i, q, h => by
    rw [show en [] n = List.replicate n mU from rfl, toL_rep] at h
    cases h
  | v :: vs, n, i, q, h => by
    match v, h with
    | .inl x, h =>
      rcases List.mem_cons.mp (show q ∈ (i, Value.int x) :: toL ad b (i + 1) (en vs (n - 1)) from h) with e | e
      · rw [e]; exact List.mem_cons_self
      · exact List.mem_cons_of_mem _ (en_args vs (n - 1) (i + 1) q e)
    | .inr (.inl x), h =>
      rcases List.mem_cons.mp (show q ∈ (i, Value.long x) :: toL ad b (i + 2) (en vs (n - 2)) from h) with e | e
      · rw [e]; exact List.mem_cons_self
      · exact List.mem_cons_of_mem _ (en_args vs (n - 2) (i + 2) q e)
    | .inr (.inr (.inl (k, t, c))), h =>
      have hc : (tv ad b (mR k t c)).category = 1 := tv_cat (fun x q => by cases q)
      have e1 : lv_args i ((mR k t c :: vs).map (tv ad b)) = (i, tv ad b (mR k t c)) :: lv_args (i + 1) (vs.map (tv ad b)) := by
        show (i, tv ad b (mR k t c)) :: lv_args (if (tv ad b (mR k t c)).category = 2 then i + 2 else i + 1) _ = _
        rw [if_neg (by omega)]
      rw [e1]
      rcases List.mem_cons.mp (show q ∈ (i, tv ad b (mR k t c)) :: toL ad b (i + 1) (en vs (n - 1)) from h) with e | e
      · rw [e]; exact List.mem_cons_self
      · exact List.mem_cons_of_mem _ (en_args vs (n - 1) (i + 1) q e)
    | .inr (.inr (.inr _)), h =>
      exact List.mem_cons_of_mem _ (en_args vs (n - 1) (i + 1) q (show q ∈ toL ad b (i + 1) (en vs (n - 1)) from h))
theorem en_noJ : ∀ (As : List MV) (n : Nat), nJ As = true → ∀ (i : Nat) (x : Int64), (en As n)[i]? ≠ some (mJ x)
  | [], n, _, i, x => by
    rw [show en [] n = List.replicate n mU from rfl, List.getElem?_replicate]
    split <;> simp
  | v :: vs, n, h, i, x => by
    match v, h with
    | .inl y, h =>
      cases i with
      | zero => intro e; cases Option.some.inj e
      | succ i => exact en_noJ vs (n - 1) h i x
    | .inr (.inr y), h =>
      cases i with
      | zero => intro e; cases Option.some.inj e
      | succ i => exact en_noJ vs (n - 1) h i x
theorem en_wt {sc : Bool} : ∀ (As : List MV) (n : Nat), (∀ v ∈ As, wtv sc v) → ∀ v ∈ en As n, wtv sc v
  | [], n, _, v, hv => by rw [List.eq_of_mem_replicate (show v ∈ List.replicate n mU from hv)]; trivial
  | w :: vs, n, h, v, hv => by
    match w, h, hv with
    | .inl y, h, hv =>
      rcases List.mem_cons.mp (show v ∈ mI y :: en vs (n - 1) from hv) with e | e
      · rw [e]; trivial
      · exact en_wt vs (n - 1) (all_tl h) v e
    | .inr (.inl y), h, hv =>
      rcases List.mem_cons.mp (show v ∈ mJ y :: mU :: en vs (n - 2) from hv) with e | e
      · rw [e]; trivial
      · rcases List.mem_cons.mp e with e | e
        · rw [e]; trivial
        · exact en_wt vs (n - 2) (all_tl h) v e
    | .inr (.inr y), h, hv =>
      rcases List.mem_cons.mp (show v ∈ .inr (.inr y) :: en vs (n - 1) from hv) with e | e
      · rw [e]; exact all_hd h
      · exact en_wt vs (n - 1) (all_tl h) v e
def rtk (rk : Nat) (ret : Option FieldType) : Bool := match rk with
  | 0 => decide (ret = none)
  | 1 => decide (ret = some .int)
  | 2 => decide (ret = some .long)
  | 3 => (match ret with
    | some (.object _) => true
    | _ => false)
  | 4 => decide (ret = some .boolean)
  | _ => false
/-- the kind of a call of a method that answers so -/
def kof (rk : Nat) : Nat := bif Nat.beq rk 4 then 1 else rk
def chkE (E : Ev) (cc : ByteArray) (own : String) (nL : Nat) (ret : Option FieldType) : Bool := E.1.all (fun q => chk cc own nL q && vck E q.2) && (rtk E.2.2.1 ret && decide (plainName own = true))
set_option maxHeartbeats 4000000 in
theorem con_of (l : Launch) (E : Ev) (y : MethodName) (cc : ByteArray) (nL : Nat) (ret : Option FieldType) (rm : Room) (hch : chkE E cc y.cls nL ret = true) (hcl : ∀ q ∈ E.2.1, ClOK l rm y.cls q.1 q.2) (hmm : E.1.all (fun q => Nat.blt q.2.1 70) = true ∨ (1 ≤ rm.frames ∧ 21 ≤ rm.locals)) : Con l y cc nL ret rm (kof E.2.2.1) E.2.2.2.1 (spc E nL) := by
  intro D ad cI cB As μ0 K sz hwA hsp
  simp only [chkE, Bool.and_eq_true, decide_eq_true_eq, List.all_eq_true] at hch
  obtain ⟨hcode, hrt, hpl⟩ := hch
  unfold spc at hsp
  cases hbb : (Nat.ble (ctS As) nL && (E.2.2.2.2.1 || nJ As)) with
  | false => rw [hbb] at hsp; exact hsp.elim
  | true =>
    rw [hbb, cond_true] at hsp
    simp only [Bool.and_eq_true, Bool.or_eq_true] at hbb
    have hct := Nat.le_of_ble_eq_true hbb.1
    refine Met.ofW (cc := cc) (maxL := nL) (ret := ret) hpl rfl ?_
    intro p e s m args below meth c s₁ B hml hv
    obtain ⟨rfl, hsz, hP, hK, hD0, hN⟩ := hv
    have hx := B.exec
    have hb := B.bytes
    have hr := B.returns
    have hts0 := atoms_spec (ws := Cond.code y cc nL ret :: lw_g) B.pre
    have hts : ∀ w ∈ lw_g, w.before (As.map (tv ad 0)).toArray s = true := fun w hw => hts0 w (List.mem_cons_of_mem _ hw)
    have hown : s.vm.findClass y.cls = some m.cls := findClass_of_methodNamed B.named
    have hlocks := B.notSynchronized
    subst hsz
    have hDA : ∀ μ, va_D (va_A (wl ad cI cB μ0) s.heap.size) (wl ad cI cB μ) := fun μ => wl_D (hD0.self (sz := s.heap.size)) μ
    generalize hAe : va_A (wl ad cI cB μ0) s.heap.size = A at hDA ⊢
    have hA : ∀ q : Nat, s.heap.size ≤ q → A q := fun q h => by rw [← hAe]; exact Or.inr h
    have hl0 := lv_entry (As.map (tv ad 0)) (n := nL) (by
      have e : (lg_sl (As.map (tv ad 0))).length = ctS As := by
        clear hwA hsp hbb hct hP hK hD0 hN hx hb hr hts0 hts hown hlocks hDA hA hAe B hml hrt hcode hcl
        induction As with
        | nil => rfl
        | cons v vs ih =>
          have e2 : (lg_sl ((v :: vs).map (tv ad 0))).length = (tv ad 0 v).category + (lg_sl (vs.map (tv ad 0))).length := by
            unfold lg_sl
            rw [List.map_cons, List.flatMap_cons, List.length_append]
            congr 1
            rcases lv_cat (tv ad 0 v) with h | h <;> rw [h] <;> simp
          rw [e2, ih]
          have := ctS_sum (ad := ad) (b := 0) [v]
          match v with
          | .inl x => rfl
          | .inr (.inl x) => rfl
          | .inr (.inr (.inl (k, t, c))) => rw [tv_cat (fun x h => by cases h)]; rfl
          | .inr (.inr (.inr _)) => rfl
      rw [e]; exact hct)
    rw [lg_entry_eq]
    generalize (lg_sl (As.map (tv ad 0)) ++ List.replicate (nL - (lg_sl (As.map (tv ad 0))).length) Slot.unset).toArray = ls at hl0 ⊢
    have hl : lR ad 0 nL E.2.2.2.2.1 ls (en As nL) := ⟨⟨hl0.1, hl0.2.1, fun q hq => hl0.2.2 q (en_args As nL 0 q hq)⟩, en_len As nL hct, fun e i x => en_noJ As nL (hbb.2.resolve_left (by rw [e]; decide)) i x⟩
    have hret : ∀ (v : MV) (μ : Mm) (H : Heap) (locs : List Loc) (ls : Array Slot) (pc : Nat) (i : Instr), decode cc pc = .ok (i, 1) → K v μ → va_P D vwCl (wl ad cI cB μ) H → va_S A s.heap H locs → wtv false v → rtOK E.2.2.1 E.2.2.2.1 i v → W p l e rm s m (As.map (tv ad 0)).toArray below meth c H locs 0 0 (MQ below (Qk (kof E.2.2.1) E.2.2.2.1 K D ad cI cB A) (As.map (tv ad 0)).toArray s 0 0 A) (F0 m pc ls (rst ad 0 v)) := by
      intro v μ H locs ls pc i hd hKv hPv hSv hwv hrk
      generalize hgr : E.2.2.1 = rk at hrk hrt ⊢
      generalize E.2.2.2.1 = rt at hrk ⊢
      have hwl : ∀ t : State, t.heap = H → s.WarmedH t.vm → wld D ad cI cB A μ t := fun t ht hW => ⟨by rw [ht]; exact hPv, va_K.moved hW.alike hK, hDA μ, nst.warm hW hN⟩
      match rk, hrk, hrt with
      | 0, ⟨hi, hve⟩, hrt =>
        subst hi; subst hve
        exact W.vret hx hb (hr.trans (of_decide_eq_true hrt)) (fun t ht hW => ⟨⟨μ, rfl, hKv, hwl t ht hW⟩, hSv.F ht⟩) hSv.2.2 hd
      | 1, ⟨hi, x, hve⟩, hrt =>
        subst hi; subst hve
        exact W.iret hx hb (hr.trans (of_decide_eq_true hrt)) (fun t ht hW => ⟨⟨x, μ, rfl, hKv, hwl t ht hW⟩, hSv.F ht⟩) hSv.2.2 hd
      | 2, ⟨hi, x, hve⟩, hrt =>
        subst hi; subst hve
        exact W.lret hx hb (hr.trans (of_decide_eq_true hrt)) (fun t ht hW => ⟨⟨x, μ, rfl, hKv, hwl t ht hW⟩, hSv.F ht⟩) hSv.2.2 hd
      | 3, ⟨hi, c0, hve⟩, hrt =>
        subst hi; subst hve
        obtain ⟨nm, hnm⟩ : ∃ nm, ret = some (.object nm) := by
          simp only [rtk] at hrt
          split at hrt
          · exact ⟨_, rfl⟩
          · cases hrt
        exact W.aret hx hb (hr.trans hnm) (Or.inl ⟨nm, rfl⟩) (Or.inr ⟨ad c0, rfl⟩) (fun t ht hW => ⟨⟨(μ, c0), ad c0, rfl, ⟨hKv, hwv⟩, rfl, hwl t ht hW⟩, hSv.F ht⟩) hSv.2.2 hd
      | 4, ⟨hi, x, hve, hz⟩, hrt =>
        subst hi; subst hve
        exact W.zret hx hb (hr.trans (of_decide_eq_true hrt)) (zb_narrow hz) (fun t ht hW => ⟨⟨x, μ, rfl, hKv, hwl t ht hW⟩, hSv.F ht⟩) hSv.2.2 hd
    refine hsp (Wt p l e rm s m (As.map (tv ad 0)).toArray below meth c 0 0 (MQ below (Qk (kof E.2.2.1) E.2.2.2.1 K D ad cI cB A) (As.map (tv ad 0)).toArray s 0 0 A) D ad 0 cI cB nL false E.2.2.2.2.1 A s.heap) ?_ s.heap [] ls hl (en_wt As nL hwA) (fun v hv => by cases hv) hP va_S.rf
    intro pc L S μ hst
    unfold stp at hst
    cases ho : lk E.1 pc with
    | none => rw [ho] at hst; exact hst.elim
    | some o =>
      rw [ho] at hst
      have hc := hcode _ (lk_mem ho)
      obtain ⟨hd, hs⟩ := chk_dec hc.1
      exact opx_sound hx hb hml hown hts hK hN hA hDA ⟨Nat.zero_le _, Nat.zero_le _⟩ (fun a ce hce => hcl _ (lk_mem hce)) (fun z => by cases z) hret hd hs hc.2 (fun h70 => hmm.elim (fun z => absurd (Nat.le_of_ble_eq_true (List.all_eq_true.mp z _ (lk_mem ho))) (by show ¬ (o.1 + 1 ≤ 70); omega)) id) L S μ hst
