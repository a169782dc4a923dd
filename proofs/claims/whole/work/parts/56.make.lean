/-! ===== what constructors make ===== -/
def wlg (ad : Nat → Nat) (cI cB : Nat) (μ : Mm) (l : List (Nat × Nat)) : va_W := l.mapIdx (fun c q => (ad c, cE ad cI cB μ c q))
theorem wlg_wl {ad : Nat → Nat} {cI cB : Nat} {μ : Mm} : wl ad cI cB μ = wlg ad cI cB μ lyL := rfl
theorem mF_sh {ad : Nat → Nat} {μ : Mm} {n c k : Nat} (f : Nat × Nat × Nat) : tv (fun c => ad (c + n)) 0 (mF (fun c => μ (c + n)) c k f) = tv ad 0 (mF μ (c + n) k f) := by
  obtain ⟨f0, f1, f2⟩ := f
  have e : c + f1 + n = c + n + f1 := by omega
  match f0 with
  | 0 => rfl
  | 1 => rfl
  | 2 => show Value.ref (ad (c + f1 + n)) = Value.ref (ad (c + n + f1)); rw [e]
  | 3 => show Value.ref (ad (c + f1 + n)) = Value.ref (ad (c + n + f1)); rw [e]
  | f0 + 4 => show Value.ref (ad (c + f1 + n)) = Value.ref (ad (c + n + f1)); rw [e]
theorem cE_sh {ad : Nat → Nat} {cI cB : Nat} {μ : Mm} {n c : Nat} (q : Nat × Nat) : cE (fun c => ad (c + n)) cI cB (fun c => μ (c + n)) c q = cE ad cI cB μ (c + n) q := by
  unfold cE
  have e : (fun (k : Nat) (f : Nat × Nat × Nat) => tv (fun c => ad (c + n)) 0 (mF (fun c => μ (c + n)) c k f)) = (fun k f => tv ad 0 (mF μ (c + n) k f)) := by
    funext k f
    exact mF_sh f
  rw [e]
theorem wlg_app {ad : Nat → Nat} {cI cB : Nat} {μ : Mm} {l1 l2 : List (Nat × Nat)} : wlg ad cI cB μ (l1 ++ l2) = wlg ad cI cB μ l1 ++ wlg (fun c => ad (c + l1.length)) cI cB (fun c => μ (c + l1.length)) l2 := by
  unfold wlg
  rw [List.mapIdx_append]
  congr 1
  have e : (fun (i : Nat) (q : Nat × Nat) => (ad (i + l1.length), cE ad cI cB μ (i + l1.length) q)) = (fun c q => (ad (c + l1.length), cE (fun c => ad (c + l1.length)) cI cB (fun c => μ (c + l1.length)) c q)) := by
    funext c q
    rw [cE_sh]
  rw [e]
/-- behind a call on the last cells -/
theorem jn {A0 : Nat → Prop} {D : va_G} {cl : List vw_C} {wr wc w1 : va_W} {H H1 : Heap} (hP : va_P D cl (wr ++ wc) H) (hD : va_D A0 (wr ++ wc)) (hk : ∀ q : Nat, q < H.size → ¬ va_A wc H.size q → H1[q]? = H[q]?) (hF : ∀ q, va_A wc H.size q → A0 q) (hP1 : va_P D cl w1 H1) (hD1 : va_D (va_A wc H.size) w1) : va_P D cl (wr ++ w1) H1 ∧ va_D A0 (wr ++ w1) := by
  have eR : ∀ (k : Nat) (x : Nat × va_E), wr[k]? = some x → (wr ++ wc)[k]? = some x := fun k x h => by
    rw [List.getElem?_append_left (List.getElem?_eq_some_iff.mp h).1]; exact h
  have eC : ∀ (k : Nat) (x : Nat × va_E), wc[k]? = some x → (wr ++ wc)[wr.length + k]? = some x := fun k x h => by
    rw [List.getElem?_append_right (by omega), Nat.add_sub_cancel_left]; exact h
  have no : ∀ (k : Nat) (x : Nat × va_E), wr[k]? = some x → ¬ va_A wc H.size x.1 := fun k x h z => by
    rcases z with ⟨j, e, hj⟩ | z
    · have h1 := hD.1 _ _ _ _ (eR k x h) (eC j _ hj) rfl
      have h2 := (List.getElem?_eq_some_iff.mp h).1
      omega
    · have := (hP _ _ (eR k x h)).lt
      omega
  have hPr : va_P D cl wr H := fun k x h => hP _ _ (eR k x h)
  have hDr : va_D A0 wr := ⟨fun i j p q hi hj => hD.1 i j p q (eR i p hi) (eR j q hj), fun k q h => hD.2 _ _ (eR k q h)⟩
  exact ⟨(hPr.kept (fun k x h => hk _ (hPr k x h).lt (no k x h))).app hP1, va_D.app hDr (hD1.weaken (fun k q _ h => hF q.1 h)) (fun i j p q hi hj e => no i p hi (by rw [e]; exact hD1.2 j q hj))⟩
theorem P_last {D : va_G} {cl : List vw_C} {wr wc : va_W} {H : Heap} (hP : va_P D cl (wr ++ wc) H) : va_P D cl wc H := fun k x h => hP (wr.length + k) x (by
  rw [List.getElem?_append_right (by omega), Nat.add_sub_cancel_left]; exact h)
theorem D_last {A : Nat → Prop} {wr wc : va_W} (hD : va_D A (wr ++ wc)) : va_D A wc := by
  have eC : ∀ (k : Nat) (x : Nat × va_E), wc[k]? = some x → (wr ++ wc)[wr.length + k]? = some x := fun k x h => by
    rw [List.getElem?_append_right (by omega), Nat.add_sub_cancel_left]; exact h
  exact ⟨fun i j p q hi hj e => by have := hD.1 _ _ _ _ (eC i p hi) (eC j q hj) e; omega, fun k q h => hD.2 _ _ (eC k q h)⟩
theorem cI_eq {D : va_G} {cl : List vw_C} {cI cB cA : Nat} {s : State} (hK : va_K D cl (ty2 cI cB ++ [(cA, .int)]) s) : cA = cI := by
  have h2 : s.vm.findClass ("[" ++ FieldType.int.toString) = some cA := (hK.2 2 _ rfl).2
  have h0 : s.vm.findClass ("[" ++ FieldType.int.toString) = some cI := (hK.2 0 _ rfl).2
  exact Option.some.inj (h2.symm.trans h0)
theorem cB_eq {D : va_G} {cl : List vw_C} {cI cB cA : Nat} {s : State} (hK : va_K D cl (ty2 cI cB ++ [(cA, .boolean)]) s) : cA = cB := by
  have h2 : s.vm.findClass ("[" ++ FieldType.boolean.toString) = some cA := (hK.2 2 _ rfl).2
  have h0 : s.vm.findClass ("[" ++ FieldType.boolean.toString) = some cB := (hK.2 1 _ rfl).2
  exact Option.some.inj (h2.symm.trans h0)
section MK
variable {p : Program} {l : Launch} {e : Env} {R : Room} {s : State} {m : MethodId} {args : Array Value} {below : List Frame} {meth : Method} {c : Code} {H : Heap} {locs : List Loc} {cells slots : Nat} {Q : State → Prop} {D : va_G} {cI cB : Nat} {ws : va_W} {A : Nat → Prop} {H0 : Heap} {cc : ByteArray} {pc : Nat} {ls : Array Slot} {rest : List Value}
theorem nwI (hx : p.tables.exec = Jvm.exec) (hb : c.code = cc) (harr : (Cond.arrayClass .int).before args s = true) (hK : va_K D vwCl (ty2 cI cB) s) (hP : va_P D vwCl ws H) (hD : va_D A ws) (hS : va_S A H0 H locs) (hA : ∀ q, H0.size ≤ q → A q) {n : Int32} (N : Nat) (hn : ¬ n < 0) (hN : n.toNatClampNeg = N) (hbytes : N * 4 ≤ 536870912) (hcells : cells + 1 ≤ R.cells) (hslots : slots + N ≤ R.slots) (hdg : decode cc pc = .ok (.newarray .int, 2))
    (kk : ∀ (q : Nat) (H1 : Heap), va_P D vwCl (ws ++ [(q, .inl (cI, N, .inl zr))]) H1 → va_D A (ws ++ [(q, .inl (cI, N, .inl zr))]) → va_S A H0 H1 locs → W p l e R s m args below meth c H1 locs (cells + 1) (slots + N) Q (F0 m (pc + 2) ls (.ref q :: rest))) : W p l e R s m args below meth c H locs cells slots Q (F0 m pc ls (.int n :: rest)) := by
  refine va_newa (atype := .int) (ty := .int) hx hb harr rfl hK hP hD hS hA (a0 := (N, .inl zr)) (fun _ => rfl) hn hN hbytes hcells hslots hdg (fun q cA H1 hK1 hP1 hD1 hS1 => ?_)
  have e := cI_eq hK1
  subst e
  exact kk q H1 hP1 hD1 hS1
theorem nwB (hx : p.tables.exec = Jvm.exec) (hb : c.code = cc) (harr : (Cond.arrayClass .boolean).before args s = true) (hK : va_K D vwCl (ty2 cI cB) s) (hP : va_P D vwCl ws H) (hD : va_D A ws) (hS : va_S A H0 H locs) (hA : ∀ q, H0.size ≤ q → A q) {n : Int32} (N : Nat) (hn : ¬ n < 0) (hN : n.toNatClampNeg = N) (hbytes : N * componentBytes .boolean ≤ 536870912) (hcells : cells + 1 ≤ R.cells) (hslots : slots + N ≤ R.slots) (hdg : decode cc pc = .ok (.newarray .boolean, 2))
    (kk : ∀ (q : Nat) (H1 : Heap), va_P D vwCl (ws ++ [(q, .inl (cB, N, .inl zr))]) H1 → va_D A (ws ++ [(q, .inl (cB, N, .inl zr))]) → va_S A H0 H1 locs → W p l e R s m args below meth c H1 locs (cells + 1) (slots + N) Q (F0 m (pc + 2) ls (.ref q :: rest))) : W p l e R s m args below meth c H locs cells slots Q (F0 m pc ls (.int n :: rest)) := by
  refine va_newa (atype := .boolean) (ty := .boolean) hx hb harr rfl hK hP hD hS hA (a0 := (N, .inl zr)) (fun _ => rfl) hn hN hbytes hcells hslots hdg (fun q cA H1 hK1 hP1 hD1 hS1 => ?_)
  have e := cB_eq hK1
  subst e
  exact kk q H1 hP1 hD1 hS1
/-- a constructor's contract: the new object, all of its fields as the machine lays them, becomes this part of the world -/
def IC (l : Launch) (y : MethodName) (bt : ByteArray) (rm : Room) (ci : Nat) (fs0 : List Value) (sub : List (Nat × Nat)) (μX : Mm) (mc ms : Nat) : Prop :=
  ∀ (D : va_G) (cI cB h0 sz : Nat), Met l y (Cond.code y bt 1 none :: lw_g) rm (va_Pc [.ref h0] (fun U => U.heap.size = sz ∧ va_P D vwCl [(h0, .inr (ci, fs0))] U.heap ∧ va_K D vwCl (ty2 cI cB) U ∧ va_D (fun _ => True) [(h0, .inr (ci, fs0))]))
    (va_Qv (fun u : Nat → Nat => u 0 = h0) (fun u t => va_P D vwCl (wlg u cI cB μX sub) t.heap ∧ va_D (va_A [(h0, .inr (ci, fs0))] sz) (wlg u cI cB μX sub)) (va_A [(h0, .inr (ci, fs0))] sz)) mc ms (va_A [(h0, .inr (ci, fs0))] sz)
/-- new, dup, the constructor's call -/
theorem mkC {own C : String} {T : u_T} {N ci i1 i2 nL : Nat} {y : MethodName} {bt : ByteArray} {rm : Room} {fs0 : List Value} {sub : List (Nat × Nat)} {μX : Mm} {mc ms : Nat} (hC : IC l y bt rm ci fs0 sub μX mc ms)
    (hx : p.tables.exec = Jvm.exec) (hb : c.code = cc) (hml : c.maxLocals = nL) (hown : s.vm.findClass own = some m.cls) (hts : ∀ w ∈ lw_g, w.before args s = true) (hK : va_K D vwCl (ty2 cI cB) s) (hP : va_P D vwCl ws H) (hD : va_D A ws) (hS : va_S A H0 H locs) (hA : ∀ q, H0.size ≤ q → A q) (hls : ls.size = nL)
    (hcl : vwCl[ci]? = some (C, T, N)) (hin : ∀ w ∈ u_ws C T N, w ∈ lw_g) (ty : Nat → FieldType) (hty : ∀ k, k < N → parseFieldDescriptor (T k).2.2.1 = some (ty k)) (hfs : ∀ j, j < N → defaultValue (ty j) = vp_V fs0 j)
    (w1 : Cond.classLink own i1 C ∈ lw_g) (w2 : Cond.instantiable C N ∈ lw_g) (w3 : Cond.initialized C ∈ lw_g) (w4 : Cond.code y bt 1 none ∈ lw_g) (w5 : Cond.methodLink own i2 y ∈ lw_g) (w6 : Cond.instanceMethod y ∈ lw_g) (hy : y.cls = C ∧ y.name = "<init>") (hyd : y.cls ≠ "java/lang/invoke/MethodHandle" ∧ y.cls ≠ "java/lang/invoke/VarHandle" ∧ (parseMethodDescriptor y.desc).map (fun d => d.parameters.length) = some 0)
    (hrm : rm.cells = mc ∧ rm.slots = ms ∧ rm.frames + 1 ≤ R.frames ∧ 8 + (1 + 11) + rm.locals ≤ R.locals) (hroom : cells + 1 + mc ≤ R.cells ∧ slots + N + ms ≤ R.slots) (hsum : (rest.map fun v => v.category).sum ≤ 7)
    (d1 : decode cc pc = .ok (.new i1, 3)) (d2 : decode cc (pc + 3) = .ok (.dup, 1)) (d3 : decode cc (pc + 3 + 1) = .ok (.invokespecial i2, 3))
    (kk : ∀ (q : Nat) (u : Nat → Nat) (H1 : Heap) (locs1 : List Loc), u 0 = q → va_P D vwCl (ws ++ wlg u cI cB μX sub) H1 → va_D A (ws ++ wlg u cI cB μX sub) → va_S A H0 H1 locs1 → W p l e R s m args below meth c H1 locs1 (cells + 1 + mc) (slots + N + ms) Q (F0 m (pc + 3 + 1 + 3) ls (.ref q :: rest))) : W p l e R s m args below meth c H locs cells slots Q (F0 m pc ls rest) := by
  refine va_new (ci := ci) (fs := fs0) (C := C) (T := T) (N := N) hx hb hts hin ty hty hown (hts _ w1) (hts _ w2) (hts _ w3) hK hP hD hS hA hcl hfs (by omega) (by omega) d1 (fun q H hP hD hS => ?_)
  refine lv_dup hx hb d2 rfl ?_
  have hPc := P_last hP
  have hDc := D_last hD
  have hFc : ∀ z, va_A [(q, (.inr (ci, fs0) : va_E))] H.size z → A z := fun z hz => hz.elim (fun ⟨k, e, h⟩ => hDc.2 k _ h) (fun h => hA z (Nat.le_trans hS.1 h))
  refine va_callv (va_runI (As := []) (rest := .ref q :: rest) (n := 0) ⟨hx, hb, hml, hown, hts⟩ (hC D cI cB q H.size) (cwI 0 hts (goodIn_g w4) rfl hrm.1 hrm.2.1 (by rw [hy.1]; exact hts _ w3) (hts _ w5) (hts _ w6) hy.2 hyd ⟨hrm.2.2.1, hrm.2.2.2⟩) ⟨fun a U g mk z => by obtain ⟨q0, q1, qP, qK, qD⟩ := z; exact ⟨q0, q1, qP, va_K.moved (u := U) (U := U.calling g mk a) (Vm.Alike.refl U.vm) qK, qD⟩, fun U hU hW => ⟨rfl, by rw [hU], by rw [hU]; exact hPc, va_K.moved hW.alike hK, hDc.weaken (fun _ _ _ _ => trivial)⟩⟩ rfl rfl hls rfl (lv_room (by
    show 1 + (rest.map fun v => v.category).sum ≤ 8
    omega)) d3 hroom) hS (fun z _ h => hFc z h) hFc (fun u t H1 locs1 ht hvm hw hB hz1 hk1 hS1 => ?_)
  obtain ⟨hP1, hD1⟩ := hB
  rw [ht] at hP1
  obtain ⟨hP2, hD2⟩ := jn hP hD hk1 hFc hP1 hD1
  exact kk q u H1 locs1 hw hP2 hD2 hS1
end MK
