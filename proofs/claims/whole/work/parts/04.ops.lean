/-! ===== what an instruction of the small machine stands for; contracts; one instruction is sound ===== -/
def dcc (pc : Nat) (o : Ao) : Instr × Nat := match o with
  | (tag, v, w, a, _, _, J) => match tag / 8 with
    | 0 => match tag % 8 with
      | 0 => (.iconst v.toInt, 1)
      | 1 => (.bipush v.toInt, 2)
      | 2 => (.sipush v.toInt, 3)
      | 3 => (.ldc a, 2)
      | 4 => (.ldc_w a, 3)
      | 5 => (.lconst (if w = 0 then 0 else 1), 1)
      | 6 => (.ldc2_w a, 3)
      | 7 => (.iload_n (Fin.ofNat 4 a), 1)
      | _ => (.nop, 0)
    | 1 => match tag % 8 with
      | 0 => (.iload a, 2)
      | 1 => (.aload_n (Fin.ofNat 4 a), 1)
      | 2 => (.aload a, 2)
      | 3 => (.lload_n (Fin.ofNat 4 a), 1)
      | 4 => (.lload a, 2)
      | 5 => (.istore_n (Fin.ofNat 4 a), 1)
      | 6 => (.istore a, 2)
      | 7 => (.astore_n (Fin.ofNat 4 a), 1)
      | _ => (.nop, 0)
    | 2 => match tag % 8 with
      | 0 => (.astore a, 2)
      | 1 => (.lstore_n (Fin.ofNat 4 a), 1)
      | 2 => (.lstore a, 2)
      | 3 => (.iadd, 1)
      | 4 => (.isub, 1)
      | 5 => (.imul, 1)
      | 6 => (.idiv, 1)
      | 7 => (.irem, 1)
      | _ => (.nop, 0)
    | 3 => match tag % 8 with
      | 0 => (.ineg, 1)
      | 1 => (.iand, 1)
      | 2 => (.ior, 1)
      | 3 => (.ixor, 1)
      | 4 => (.ishl, 1)
      | 5 => (.ishr, 1)
      | 6 => (.iushr, 1)
      | 7 => (.ladd, 1)
      | _ => (.nop, 0)
    | 4 => match tag % 8 with
      | 0 => (.lmul, 1)
      | 1 => (.ldiv, 1)
      | 2 => (.lrem, 1)
      | 3 => (.lcmp, 1)
      | 4 => (.i2l, 1)
      | 5 => (.dup, 1)
      | 6 => (.dup2, 1)
      | 7 => (.iinc a v.toInt, 3)
      | _ => (.nop, 0)
    | 5 => match tag % 8 with
      | 0 => (.goto ((a : Int) - pc), 3)
      | 1 => (.ifCond .eq ((a : Int) - pc), 3)
      | 2 => (.ifCond .ne ((a : Int) - pc), 3)
      | 3 => (.ifCond .lt ((a : Int) - pc), 3)
      | 4 => (.ifCond .ge ((a : Int) - pc), 3)
      | 5 => (.ifCond .gt ((a : Int) - pc), 3)
      | 6 => (.ifCond .le ((a : Int) - pc), 3)
      | 7 => (.if_icmp .eq ((a : Int) - pc), 3)
      | _ => (.nop, 0)
    | 6 => match tag % 8 with
      | 0 => (.if_icmp .ne ((a : Int) - pc), 3)
      | 1 => (.if_icmp .lt ((a : Int) - pc), 3)
      | 2 => (.if_icmp .ge ((a : Int) - pc), 3)
      | 3 => (.if_icmp .gt ((a : Int) - pc), 3)
      | 4 => (.if_icmp .le ((a : Int) - pc), 3)
      | 5 => (.ifnull ((a : Int) - pc), 3)
      | 6 => (.ifnonnull ((a : Int) - pc), 3)
      | 7 => (.getfield a, 3)
      | _ => (.nop, 0)
    | 7 => match tag % 8 with
      | 0 => (.putfield a, 3)
      | 1 => (.iaload, 1)
      | 2 => (.iastore, 1)
      | 3 => (.baload, 1)
      | 4 => (.bastore, 1)
      | 5 => (.arraylength, 1)
      | 6 => (.invokevirtual a, 3)
      | 7 => (.invokestatic a, 3)
      | _ => (.nop, 0)
    | 8 => match tag % 8 with
      | 0 => (.ireturn, 1)
      | 1 => (.lreturn, 1)
      | 2 => (.return_, 1)
      | 3 => (.areturn, 1)
      | 4 => (.tableswitch ((a : Int) - pc) (J.headD (0, 0)).1.toInt ((J.headD (0, 0)).1.toInt + J.length - 1) (J.map (fun q => (q.2 : Int) - pc)).toArray, 1 + (3 - pc % 4) + 12 + 4 * J.length)
      | 5 => (.lookupswitch ((a : Int) - pc) (J.map (fun q => (q.1.toInt, (q.2 : Int) - pc))).toArray, 1 + (3 - pc % 4) + 8 + 8 * J.length)
      | 6 => (.invokestatic a, 3)
      | 7 => (.invokestatic a, 3)
      | _ => (.nop, 0)
    | _ => (.nop, 0)
def srt : List (Int32 × Nat) → Bool
  | q :: r :: J => decide (q.1.toInt < r.1.toInt) && srt (r :: J)
  | _ => true
def sfld (own : String) (a b c : Nat) : Bool := match vwCl[b / 32]? with
  | some q => decide (b % 32 < q.2.2) && decide (lw_tbl[c]? = some (.fieldLink own a (q.2.1 (b % 32)).1 (q.2.1 (b % 32)).2.1 (q.2.1 (b % 32)).2.2.1))
  | none => false
theorem sfld_ex {own : String} {a b c : Nat} (h : sfld own a b c = true) : ∃ q, vwCl[b / 32]? = some q ∧ b % 32 < q.2.2 ∧ lw_tbl[c]? = some (.fieldLink own a (q.2.1 (b % 32)).1 (q.2.1 (b % 32)).2.1 (q.2.1 (b % 32)).2.2.1) := by
  unfold sfld at h
  split at h
  · rename_i q hq
    simp only [Bool.and_eq_true, decide_eq_true_eq] at h
    exact ⟨q, hq, h.1, h.2⟩
  · cases h
def sid (own : String) (nL : Nat) (o : Ao) : Bool := match o with
  | (tag, v, w, a, b, c, J) => match tag / 8 with
    | 0 => match tag % 8 with
      | 0 => true
      | 1 => decide ((Int8.ofInt v.toInt).toInt32 = v)
      | 2 => decide ((Int16.ofInt v.toInt).toInt32 = v)
      | 3 => decide (lw_tbl[c]? = some (.constant own a v))
      | 4 => decide (lw_tbl[c]? = some (.constant own a v))
      | 5 => decide (w = 0 ∨ w = 1)
      | 6 => decide (lw_tbl[c]? = some (.constantLong own a w))
      | 7 => decide (a < 4)
      | _ => false
    | 1 => match tag % 8 with
      | 0 => true
      | 1 => decide (a < 4)
      | 2 => true
      | 3 => decide (a < 4)
      | 4 => true
      | 5 => decide (a < 4 ∧ a < nL)
      | 6 => decide (a < nL)
      | 7 => decide (a < 4 ∧ a < nL)
      | _ => false
    | 2 => match tag % 8 with
      | 0 => decide (a < nL)
      | 1 => decide (a < 4 ∧ a + 1 < nL)
      | 2 => decide (a + 1 < nL)
      | 3 => true
      | 4 => true
      | 5 => true
      | 6 => true
      | 7 => true
      | _ => false
    | 3 => match tag % 8 with
      | 0 => true
      | 1 => true
      | 2 => true
      | 3 => true
      | 4 => true
      | 5 => true
      | 6 => true
      | 7 => true
      | _ => false
    | 4 => match tag % 8 with
      | 0 => true
      | 1 => true
      | 2 => true
      | 3 => true
      | 4 => true
      | 5 => true
      | 6 => true
      | 7 => decide (a < nL)
      | _ => false
    | 5 => match tag % 8 with
      | 0 => true
      | 1 => true
      | 2 => true
      | 3 => true
      | 4 => true
      | 5 => true
      | 6 => true
      | 7 => true
      | _ => false
    | 6 => match tag % 8 with
      | 0 => true
      | 1 => true
      | 2 => true
      | 3 => true
      | 4 => true
      | 5 => true
      | 6 => true
      | 7 => sfld own a b c
      | _ => false
    | 7 => match tag % 8 with
      | 0 => sfld own a b c
      | 1 => true
      | 2 => true
      | 3 => true
      | 4 => true
      | 5 => true
      | 6 => true
      | 7 => true
      | _ => false
    | 8 => match tag % 8 with
      | 0 => true
      | 1 => true
      | 2 => true
      | 3 => true
      | 4 => (List.range J.length).all (fun i => decide ((J.getD i (0, 0)).1.toInt = (J.headD (0, 0)).1.toInt + i))
      | 5 => srt J
      | 6 => decide (lw_tbl[c]? = some (.methodLink own a Lib.Math.min.name))
      | 7 => decide (lw_tbl[c]? = some (.methodLink own a Lib.Math.max.name))
      | _ => false
    | _ => false
def vck (E : Ev) (o : Ao) : Bool := bif Nat.beq o.1 62 then (match lk E.2.1 o.2.2.2.1 with
  | some ce => !Nat.beq ce.2.2.2.1 0
  | none => false) else bif Nat.beq o.1 63 then (match lk E.2.1 o.2.2.2.1 with
  | some ce => Nat.beq ce.2.2.2.1 0
  | none => false) else true
theorem vck_v {E : Ev} {v : Int32} {w : Int64} {a b c : Nat} {J : List (Int32 × Nat)} {ce : Ce} (h : vck E (62, v, w, a, b, c, J) = true) (hc : lk E.2.1 a = some ce) : ce.2.2.2.1 ≠ 0 := by
  have h1 : (match lk E.2.1 a with
    | some ce => !Nat.beq ce.2.2.2.1 0
    | none => false) = true := h
  rw [hc] at h1
  intro e
  simp only [e] at h1
  cases h1
theorem vck_s {E : Ev} {v : Int32} {w : Int64} {a b c : Nat} {J : List (Int32 × Nat)} {ce : Ce} (h : vck E (63, v, w, a, b, c, J) = true) (hc : lk E.2.1 a = some ce) : ce.2.2.2.1 = 0 := by
  have h1 : (match lk E.2.1 a with
    | some ce => Nat.beq ce.2.2.2.1 0
    | none => false) = true := h
  rw [hc] at h1
  exact Nat.eq_of_beq_eq_true h1
def chk (cc : ByteArray) (own : String) (nL : Nat) (q : Nat × Ao) : Bool := (match decode cc q.1 with
  | .ok z => decide (z = dcc q.1 q.2)
  | .error _ => false) && sid own nL q.2
theorem chk_dec {cc : ByteArray} {own : String} {nL pc : Nat} {o : Ao} (h : chk cc own nL (pc, o) = true) : decode cc pc = .ok (dcc pc o) ∧ sid own nL o = true := by
  unfold chk at h
  simp only [Bool.and_eq_true] at h
  refine ⟨?_, h.2⟩
  have h1 := h.1
  split at h1
  · rename_i z hz
    rw [hz, of_decide_eq_true h1]
  · cases h1
theorem lk_mem {α : Type} : ∀ {l : List (Nat × α)} {k : Nat} {v : α}, lk l k = some v → (k, v) ∈ l := by
  intro l
  induction l with
  | nil => intro k v h; cases h
  | cons q r ih =>
    intro k v h
    unfold lk at h
    cases hb : Nat.beq q.1 k with
    | true =>
      rw [hb, cond_true] at h
      have e := Nat.eq_of_beq_eq_true hb
      have e2 := Option.some.inj h
      subst e; subst e2
      exact List.mem_cons_self
    | false =>
      rw [hb, cond_false] at h
      exact List.mem_cons_of_mem _ (ih h)
def wld (D : va_G) (ad : Nat → Nat) (cI cB : Nat) (A : Nat → Prop) (μ : Mm) (U : State) : Prop := va_P D vwCl (wl ad cI cB μ) U.heap ∧ va_K D vwCl (ty2 cI cB) U ∧ va_D A (wl ad cI cB μ) ∧ nst U
def Qk (kind rt : Nat) (K : MV → Mm → Prop) (D : va_G) (ad : Nat → Nat) (cI cB : Nat) (A1 : Nat → Prop) : Array Value → State → Outcome → State → Prop := match kind with
  | 0 => va_Qv (fun u : Mm => K mU u) (fun u t => wld D ad cI cB A1 u t) A1
  | 1 => va_Qi (fun r (u : Mm) => K (mI r) u) (fun u t => wld D ad cI cB A1 u t) A1
  | 2 => va_Ql (fun r (u : Mm) => K (mJ r) u) (fun u t => wld D ad cI cB A1 u t) A1
  | _ => va_Qr (S := Mm × Nat) (fun u => K (mO rt u.2) u.1 ∧ lyL[u.2]? = some (rt, 0) ∧ rt < 10) (fun u a t => a = ad u.2 ∧ wld D ad cI cB A1 u.1 t) A1
def preW (D : va_G) (ad : Nat → Nat) (cI cB : Nat) (As : List MV) (μ : Mm) (sz : Nat) : Array Value → State → Prop := va_Pc (As.map (tv ad 0)) (fun U => U.heap.size = sz ∧ wld D ad cI cB (fun _ => True) μ U)
/-- a method's contract, out of what it does -/
def Con (l : Launch) (y : MethodName) (bt : ByteArray) (mL : Nat) (ret : Option FieldType) (rm : Room) (kind rt : Nat) (sp : Sp) : Prop :=
  ∀ (D : va_G) (ad : Nat → Nat) (cI cB : Nat) (As : List MV) (μ : Mm) (K : MV → Mm → Prop) (sz : Nat), (∀ v ∈ As, wtv false v) → sp As μ K →
    Met l y (Cond.code y bt mL ret :: lw_g) rm (preW D ad cI cB As μ sz) (Qk kind rt K D ad cI cB (va_A (wl ad cI cB μ) sz)) 0 0 (va_A (wl ad cI cB μ) sz)
def nstL (own : String) (idx : Nat) : Prop := (own = RX3 ∧ idx = 40) ∨ (own = RX8 ∧ idx = 73)
def ClOK (l : Launch) (R : Room) (own : String) (idx : Nat) (ce : Ce) : Prop := ∃ (y : MethodName) (bt : ByteArray) (mL : Nat) (ret : Option FieldType) (rm : Room), Con l y bt mL ret rm ce.2.1 ce.2.2.1 ce.2.2.2.2 ∧
  (rm.cells = 0 ∧ rm.slots = 0 ∧ rm.frames + 1 ≤ R.frames ∧ 8 + (mL + 11) + rm.locals ≤ R.locals) ∧ (Cond.code y bt mL ret ∈ lw_g ∧ Cond.initialized y.cls ∈ lw_g) ∧ (y.cls ≠ "java/lang/invoke/MethodHandle" ∧ y.cls ≠ "java/lang/invoke/VarHandle") ∧
  match ce.2.2.2.1 with
  | 0 => (parseMethodDescriptor y.desc).map (fun d => d.parameters.length) = some ce.1 ∧ Cond.static y ∈ lw_g ∧ (Cond.methodLink own idx y ∈ lw_g ∨ (y = y_within ∧ nstL own idx))
  | t + 1 => (parseMethodDescriptor y.desc).map (fun d => d.parameters.length) = some (ce.1 - 1) ∧ 1 ≤ ce.1 ∧ Cond.instanceMethod y ∈ lw_g ∧ Cond.selects y.cls y y ∈ lw_g ∧ Cond.methodLink own idx y ∈ lw_g ∧ ∃ q, vwCl[t]? = some q ∧ q.1 = y.cls
theorem preW_blind {D : va_G} {ad : Nat → Nat} {cI cB : Nat} {As : List MV} {μ : Mm} {sz : Nat} : FrameBlind (preW D ad cI cB As μ sz) := by
  intro a U g mk q
  obtain ⟨q0, q1, qP, qK, qD, qN⟩ := q
  exact ⟨q0, q1, qP, va_K.moved (u := U) (U := U.calling g mk a) (Vm.Alike.refl U.vm) qK, qD, nst.same rfl qN⟩
theorem goodIn_g {w : Cond} (h : w ∈ lw_g) : GoodIn lw_g (w :: lw_g) := by
  intro x hx
  have hm : x ∈ lw_g := by
    rcases List.mem_cons.mp hx with e | e
    · rw [e]; exact h
    · exact e
  exact ⟨hm, good_g _ hm⟩
/-- the machine stands at pc with these locals, this stack, this memory, and ends well -/
def Wt (p : Program) (l : Launch) (e : Env) (R : Room) (s : State) (m : MethodId) (args : Array Value) (below : List Frame) (meth : Method) (c : Code) (cells slots : Nat) (Q : State → Prop) (D : va_G) (ad : Nat → Nat) (b cI cB nL : Nat) (sc lg : Bool) (A : Nat → Prop) (H0 : Heap) (pc : Nat) (L S : List MV) (μ : Mm) : Prop :=
  ∀ (H : Heap) (locs : List Loc) (ls : Array Slot), lR ad b nL lg ls L → (∀ v ∈ L, wtv sc v) → (∀ v ∈ S, wtv sc v) → va_P D vwCl (wl ad cI cB μ) H → va_S A H0 H locs → W p l e R s m args below meth c H locs cells slots Q (F0 m pc ls (S.map (tv ad b)))
def rtOK (rk rt : Nat) (i : Instr) (v : MV) : Prop := match rk with
  | 0 => i = .return_ ∧ v = mU
  | 1 => i = .ireturn ∧ ∃ x, v = mI x
  | 2 => i = .lreturn ∧ ∃ x, v = mJ x
  | 3 => i = .areturn ∧ ∃ c, v = mO rt c
  | 4 => i = .ireturn ∧ ∃ x, v = mI x ∧ zb x
  | _ => False
def rst (ad : Nat → Nat) (b : Nat) (v : MV) : List Value := match v with
  | .inr (.inr (.inr _)) => []
  | v => [tv ad b v]
theorem swt_tbl {x : Int32} {P : Nat → Prop} {d : Nat} : ∀ {J : List (Int32 × Nat)}, swt J d x P → (∃ (i : Nat) (q : Int32 × Nat), J[i]? = some q ∧ x = q.1 ∧ P q.2) ∨ ((∀ q ∈ J, x ≠ q.1) ∧ P d) := by
  intro J
  induction J with
  | nil => exact fun h => Or.inr ⟨fun q hq => absurd hq List.not_mem_nil, h⟩
  | cons q r ih =>
    intro h
    unfold swt at h
    split at h
    · rename_i hq
      exact Or.inl ⟨0, q, rfl, hq, h⟩
    · rename_i hq
      rcases ih h with ⟨i, q', h1, h2⟩ | ⟨h1, h2⟩
      · exact Or.inl ⟨i + 1, q', by simpa using h1, h2⟩
      · refine Or.inr ⟨fun q' hq' => ?_, h2⟩
        rcases List.mem_cons.mp hq' with e | e
        · rw [e]; exact hq
        · exact h1 q' e
theorem swt_lku {pc : Nat} {x : Int32} {P : Nat → Prop} {d : Nat} : ∀ {J : List (Int32 × Nat)}, swt J d x P → ∃ t, P t ∧ Op.lookupswitch.offset (J.map (fun q => (q.1.toInt, (q.2 : Int) - pc))) ((d : Int) - pc) x.toInt = (t : Int) - pc := by
  intro J
  induction J with
  | nil => exact fun h => ⟨d, h, rfl⟩
  | cons q r ih =>
    intro h
    unfold swt at h
    split at h
    · rename_i hq
      refine ⟨q.2, h, ?_⟩
      show (if q.1.toInt = x.toInt then _ else _) = _
      rw [if_pos (by rw [hq])]
    · rename_i hq
      obtain ⟨t, h1, h2⟩ := ih h
      refine ⟨t, h1, ?_⟩
      show (if q.1.toInt = x.toInt then _ else _) = _
      rw [if_neg (fun z => hq (Int32.toInt_inj.mp z).symm)]
      exact h2
theorem vi_in {i : Int32} {n : Nat} (h : vi i n) : vp_in i n := vp_in_iff.mpr h
theorem zb_narrow {x : Int32} (h : zb x) : narrow .boolean (.int x) = .int x := by
  rcases h with rfl | rfl <;> rfl
theorem zb_nar {x : Int32} (h : zb x) : vp_nar .boolean x = x := by
  rcases h with rfl | rfl <;> rfl
theorem zb_fits {x : Int32} (h : zb x) : fits .boolean (.int x) = true := by
  rcases h with rfl | rfl <;> rfl
theorem all_cons {α : Type} {p : α → Prop} {x : α} {l : List α} (h : p x) (hl : ∀ y ∈ l, p y) : ∀ y ∈ x :: l, p y := fun y hy => (List.mem_cons.mp hy).elim (fun e => e ▸ h) (hl y)
theorem all_tl {α : Type} {p : α → Prop} {x : α} {l : List α} (h : ∀ y ∈ x :: l, p y) : ∀ y ∈ l, p y := fun y hy => h y (List.mem_cons_of_mem _ hy)
theorem all_hd {α : Type} {p : α → Prop} {x : α} {l : List α} (h : ∀ y ∈ x :: l, p y) : p x := h x List.mem_cons_self
theorem ctS_sum {ad : Nat → Nat} {b : Nat} : ∀ (S : List MV), ((S.map (tv ad b)).map fun v => v.category).sum = ctS S := by
  intro S
  induction S with
  | nil => rfl
  | cons v S ih =>
    rw [List.map_cons, List.map_cons, List.sum_cons, ih]
    match v with
    | .inl x => rfl
    | .inr (.inl x) => rfl
    | .inr (.inr (.inl (k, t, c))) =>
      rw [tv_cat (fun x h => by cases h)]; rfl
    | .inr (.inr (.inr _)) => rfl
theorem nq_wt {ad : Nat → Nat} {b : Nat} {sc : Bool} : ∀ {S : List MV}, nq S = true → (∀ v ∈ S, wtv sc v) → ∀ v ∈ S, wtv false v ∧ tv ad b v = tv ad 0 v := by
  intro S
  induction S with
  | nil => intro _ _ v hv; cases hv
  | cons w S ih =>
    intro h hw v hv
    have hw1 := hw w List.mem_cons_self
    match w, h, hw1, hv with
    | .inl x, h, hw1, hv =>
      rcases List.mem_cons.mp hv with e | e
      · subst e; exact ⟨trivial, rfl⟩
      · exact ih h (all_tl hw) v e
    | .inr (.inl x), h, hw1, hv =>
      rcases List.mem_cons.mp hv with e | e
      · subst e; exact ⟨trivial, rfl⟩
      · exact ih h (all_tl hw) v e
    | .inr (.inr (.inr _)), h, hw1, hv =>
      rcases List.mem_cons.mp hv with e | e
      · subst e; exact ⟨trivial, rfl⟩
      · exact ih h (all_tl hw) v e
    | .inr (.inr (.inl (k, t, c))), h, hw1, hv =>
      unfold nq at h
      split at h
      · rename_i e; cases e
      · cases h
      · rename_i hne e
        cases e
        have hk : k ≠ 3 := fun z => by subst z; exact hne _ _ rfl
        rcases List.mem_cons.mp hv with e | e
        · subst e
          refine ⟨?_, ?_⟩
          · unfold wtv at hw1 ⊢
            simp only [if_neg hk] at hw1 ⊢
            exact hw1
          · unfold tv
            simp only [if_neg hk]
        · exact ih h (all_tl hw) v e
theorem cE_obj {ad : Nat → Nat} {cI cB : Nat} {μ : Mm} {c t : Nat} (h : t < 10) : cE ad cI cB μ c (t, 0) = .inr (t, fsO ad μ c t) := by
  unfold cE
  rw [if_neg (by simp only; omega), if_neg (by simp only; omega)]
  rfl
theorem tv_ref (ad : Nat → Nat) (b : Nat) (r : Nat × Nat × Nat) : ∃ z, tv ad b (.inr (.inr (.inl r))) = .ref z := by
  obtain ⟨k, t, c⟩ := r
  unfold tv
  simp only
  split <;> exact ⟨_, rfl⟩
theorem set_wt {sc : Bool} {L : List MV} {a : Nat} (h : ∀ w ∈ L, wtv sc w) : ∀ w ∈ L.set a mU, wtv sc w := by
  intro w hw
  rcases List.mem_or_eq_of_mem_set hw with e | e
  · exact h w e
  · rw [e]; trivial
theorem srt_ok {pc : Nat} : ∀ {J : List (Int32 × Nat)}, srt J = true → ((J.map (fun q => (q.1.toInt, (q.2 : Int) - pc))).zip ((J.map (fun q => (q.1.toInt, (q.2 : Int) - pc))).drop 1)).all (fun (a, next) => a.1 < next.1) = true
  | [], _ => rfl
  | [q], _ => rfl
  | q :: r :: J, h => by
    unfold srt at h
    simp only [Bool.and_eq_true, decide_eq_true_eq] at h
    have ih := srt_ok (pc := pc) h.2
    simp only [List.map_cons, List.drop_succ_cons, List.drop_zero, List.zip_cons_cons, List.all_cons, Bool.and_eq_true, decide_eq_true_eq] at ih ⊢
    exact ⟨h.1, ih⟩
theorem sid_big {own : String} {nL n : Nat} {q : Int32 × Int64 × Nat × Nat × Nat × List (Int32 × Nat)} : sid own nL (n + 72, q) = false := by
  obtain ⟨v, w, a, b, c, J⟩ := q
  unfold sid
  simp only
  have h8 : 9 ≤ (n + 72) / 8 := by omega
  split <;> first | rfl | (exfalso; omega) | (split <;> first | rfl | (exfalso; omega))
theorem w_min : Cond.static Lib.Math.min.name ∈ lw_g ∧ Cond.initialized "java/lang/Math" ∈ lw_g ∧ Cond.code Lib.Math.min.name Lib.Math.min.code 2 (some .int) ∈ lw_g := by decide +kernel
theorem w_max : Cond.static Lib.Math.max.name ∈ lw_g ∧ Cond.initialized "java/lang/Math" ∈ lw_g ∧ Cond.code Lib.Math.max.name Lib.Math.max.code 2 (some .int) ∈ lw_g := by decide +kernel
theorem fin4 {a : Nat} (h : a < 4) : ((Fin.ofNat 4 a : Fin 4) : Nat) = a := Nat.mod_eq_of_lt h

theorem cll_sound {p : Program} {l : Launch} {e : Env} {R : Room} {s : State} {m : MethodId} {args : Array Value} {below : List Frame} {meth : Method} {c : Code} {cells slots : Nat} {Q : State → Prop} {D : va_G} {ad : Nat → Nat} {b cI cB nL : Nat} {sc : Bool} {A : Nat → Prop} {H0 : Heap} {cc : ByteArray} {own : String} {E : Ev} {K : MV → Mm → Prop}
    (hx : p.tables.exec = Jvm.exec) (hb : c.code = cc) (hml : c.maxLocals = nL) (hown : s.vm.findClass own = some m.cls) (hts : ∀ w ∈ lw_g, w.before args s = true) (hK : va_K D vwCl (ty2 cI cB) s) (hN : nst s) (hA : ∀ q, H0.size ≤ q → A q) (hD : ∀ μ, va_D A (wl ad cI cB μ)) (hroom : cells ≤ R.cells ∧ slots ≤ R.slots)
    (hcl : ∀ a ce, lk E.2.1 a = some ce → ClOK l R own a ce) (hsc : sc = true → va_X b E.2.2.2.2.2.1 E.2.2.2.2.2.2 s H0 ∧ b < H0.size ∧ ¬ A b)
    {pc a : Nat} {L S : List MV} {μ : Mm} (hi : decode cc pc = .ok (.invokevirtual a, 3) ∨ decode cc pc = .ok (.invokestatic a, 3))
    (hv : ∀ ce, lk E.2.1 a = some ce → (decode cc pc = .ok (.invokevirtual a, 3) ↔ ce.2.2.2.1 ≠ 0))
    (h : cll (lk E.2.1 a) S μ (fun S μ => Wt p l e R s m args below meth c cells slots Q D ad b cI cB nL sc E.2.2.2.2.1 A H0 (pc + 3) L S μ)) : Wt p l e R s m args below meth c cells slots Q D ad b cI cB nL sc E.2.2.2.2.1 A H0 pc L S μ := by
  intro H locs ls hl hwL hwS hP hS
  cases hce : lk E.2.1 a with
  | none => rw [hce] at h; exact h.elim
  | some ce =>
    rw [hce] at h
    have hv := hv _ hce
    obtain ⟨y, bt, mL, ret, rm, hC, ⟨hrc, hrs, hfr, hlo⟩, ⟨hcd, hin⟩, hmh, hk⟩ := hcl _ _ hce
    obtain ⟨n, kind, rt, rc, sp⟩ := ce
    unfold cll at h
    simp only at h
    cases hbb : (Nat.ble n S.length && (Nat.ble (ctS (S.drop n)) 8 && (rck rc (S.take n).reverse && nq (S.take n)))) with
    | false => rw [hbb] at h; exact h.elim
    | true =>
      rw [hbb, cond_true] at h
      simp only [Bool.and_eq_true] at hbb
      obtain ⟨hn, hct, hrk, hnq⟩ := hbb
      have hn := Nat.le_of_ble_eq_true hn
      have hct := Nat.le_of_ble_eq_true hct
      have hq : ∀ v ∈ S.take n, wtv false v ∧ tv ad b v = tv ad 0 v := nq_wt (ad := ad) (b := b) hnq (fun v hv => hwS v (List.mem_of_mem_take hv))
      have hwA : ∀ v ∈ (S.take n).reverse, wtv false v := fun v hv => (hq v (List.mem_reverse.mp hv)).1
      have hwD : ∀ v ∈ S.drop n, wtv sc v := fun v hv => hwS v (List.mem_of_mem_drop hv)
      have hstk : S.map (tv ad b) = ((S.take n).reverse.map (tv ad 0)).reverse ++ (S.drop n).map (tv ad b) := by
        rw [List.map_reverse, List.reverse_reverse]
        conv => lhs; rw [← List.take_append_drop n S, List.map_append]
        congr 1
        exact List.map_congr_left (fun v hv => (hq v hv).2)
      have hln : (S.take n).reverse.length = n := by simp; omega
      have hcat : (((S.drop n).map (tv ad b)).map fun v => v.category).sum ≤ 8 := Nat.le_trans (Nat.le_of_eq (ctS_sum _)) hct
      have hM := hC D ad cI cB _ μ _ H.size hwA h
      have hF : ∀ q, va_A (wl ad cI cB μ) H.size q → A q := fun q hq => hq.elim (fun ⟨k, e, h⟩ => (hD μ).2 k _ h) (fun h => hA q (Nat.le_trans hS.1 h))
      have hPre : ∀ U : State, U.heap = H → s.WarmedH U.vm → preW D ad cI cB (S.take n).reverse μ H.size (((S.take n).reverse.map (tv ad 0)).toArray) U := fun U hU hW => ⟨rfl, by rw [hU], by rw [hU]; exact hP, va_K.moved hW.alike hK, (hD μ).weaken (fun _ _ _ _ => trivial), nst.warm hW hN⟩
      have hGI : GoodIn lw_g (Cond.code y bt mL ret :: lw_g) := goodIn_g hcd
      have hrun : va_Run p l e R s m args below meth c H locs cells slots 0 0 (F0 m pc ls (S.map (tv ad b))) ((S.drop n).map (tv ad b)) (Qk kind rt (fun v μ1 => knd kind rt v (S.drop n) (fun S' => Wt p l e R s m args below meth c cells slots Q D ad b cI cB nL sc E.2.2.2.2.1 A H0 (pc + 3) L S' μ1)) D ad cI cB (va_A (wl ad cI cB μ) H.size) (((S.take n).reverse.map (tv ad 0)).toArray)) (va_A (wl ad cI cB μ) H.size) := by
        cases rc with
        | zero =>
          obtain ⟨hpar, hst, hlink⟩ := hk
          have hdg : decode cc pc = .ok (.invokestatic a, 3) := hi.elim (fun z => absurd rfl (hv.mp z)) id
          rcases hlink with hlink | ⟨hyw, hnl⟩
          · exact va_runS (As := (S.take n).reverse.map (tv ad 0)) (rest := (S.drop n).map (tv ad b)) ⟨hx, hb, hml, hown, hts⟩ hM ⟨callB_of n hts hGI rfl hrc hrs (hts _ hin) (hts _ hlink) ⟨hmh.1, hmh.2, hpar⟩ ⟨hfr, hlo⟩, hts _ hst⟩ ⟨preW_blind, hPre⟩ rfl (by rw [List.length_map]; exact hln) hl.1.1 hstk (lv_room hcat) hdg hroom
          · have hnw : va_Nw (.methodLinkNest own a y RX9) s := by
              subst hyw
              rcases hnl with ⟨e1, e2⟩ | ⟨e1, e2⟩
              · subst e1; subst e2; exact hN.1
              · subst e1; subst e2; exact hN.2
            exact va_runSN (As := (S.take n).reverse.map (tv ad 0)) (rest := (S.drop n).map (tv ad b)) ⟨hx, hb, hml, hown, hts⟩ hM ⟨va_cnB n hts hGI rfl hrc hrs hnw (hts _ hin) ⟨hmh.1, hmh.2, hpar⟩ ⟨hfr, hlo⟩, hts _ hst, trivial⟩ ⟨preW_blind, hPre⟩ rfl (by rw [List.length_map]; exact hln) hl.1.1 hstk (lv_room hcat) hdg hroom
        | succ t =>
          obtain ⟨hpar, hn1, hinst, hsel, hlink, q, hq1, hq2⟩ := hk
          have hdg : decode cc pc = .ok (.invokevirtual a, 3) := hv.mpr (by simp)
          obtain ⟨c0, As, hAs⟩ : ∃ c0 As, (S.take n).reverse = mO t c0 :: As := by
            unfold rck at hrk
            split at hrk
            · rename_i e; exact absurd e (by simp)
            · rename_i t1 e
              cases e
              split at hrk
              · rename_i t' c' As' hh
                rw [hh, Nat.eq_of_beq_eq_true hrk]
                exact ⟨c', As', rfl⟩
              · cases hrk
          have hly : lyL[c0]? = some (t, 0) := (hwA (mO t c0) (by rw [hAs]; exact List.mem_cons_self)).1
          have htl : t < 10 := (hwA (mO t c0) (by rw [hAs]; exact List.mem_cons_self)).2
          have hrv := va_recv hK hP (ci := t) (q := q) (q0 := c0) hq1 ((wl_get hly).trans (by rw [cE_obj htl]))
          have hlA : As.length + 1 = n := by rw [← hln, hAs]; rfl
          have hmA : (S.take n).reverse.map (tv ad 0) = .ref (ad c0) :: As.map (tv ad 0) := by rw [hAs]; rfl
          rw [hmA]
          rw [hmA] at hPre
          refine va_runV (As := As.map (tv ad 0)) (b := ad c0) (rest := (S.drop n).map (tv ad b)) (C := y.cls) (n := n - 1) ⟨hx, hb, hml, hown, hts⟩ hM ⟨callB_of (n - 1) hts hGI rfl hrc hrs (hts _ hin) (hts _ hlink) ⟨hmh.1, hmh.2, hpar⟩ ⟨hfr, hlo⟩, hts _ hinst, hts _ hsel⟩ ⟨preW_blind, by rw [← hq2]; exact hrv, hPre⟩ rfl (by rw [List.length_map]; omega) hl.1.1 ?_ (lv_room hcat) hdg hroom
          show S.map (tv ad b) = _
          rw [hstk, hmA, List.reverse_cons, List.append_assoc]
          rfl
      have hAA : ∀ q, q < H.size → va_A (wl ad cI cB μ) H.size q → A q := fun q _ h => hF q h
      clear hM h hC
      match kind, hrun with
      | 0, hrun => exact va_callv (a := ((S.take n).reverse.map (tv ad 0)).toArray) hrun hS hAA hF (fun u t H1 locs1 ht hvm hw hB hz hk hS1 => hw H1 locs1 ls hl hwL hwD (by rw [← ht]; exact hB.1) hS1)
      | 1, hrun => exact va_calli (a := ((S.take n).reverse.map (tv ad 0)).toArray) hrun hS hAA hF (fun r u t H1 locs1 ht hvm hw hB hz hk hS1 => hw H1 locs1 ls hl hwL (all_cons trivial hwD) (by rw [← ht]; exact hB.1) hS1)
      | 2, hrun => exact va_calll (a := ((S.take n).reverse.map (tv ad 0)).toArray) hrun hS hAA hF (fun r u t H1 locs1 ht hvm hw hB hz hk hS1 => hw H1 locs1 ls hl hwL (all_cons trivial hwD) (by rw [← ht]; exact hB.1) hS1)
      | k + 3, hrun => exact va_callr (a := ((S.take n).reverse.map (tv ad 0)).toArray) hrun hS hAA hF (fun u z t H1 locs1 ht hvm hw hB hz hk hS1 => by
          obtain ⟨hz1, hB⟩ := hB
          subst hz1
          exact hw.1 H1 locs1 ls hl hwL (all_cons hw.2 hwD) (by rw [← ht]; exact hB.1) hS1)

set_option maxHeartbeats 4000000 in
theorem opx_sound {p : Program} {l : Launch} {e : Env} {R : Room} {s : State} {m : MethodId} {args : Array Value} {below : List Frame} {meth : Method} {c : Code} {cells slots : Nat} {Q : State → Prop} {D : va_G} {ad : Nat → Nat} {b cI cB nL : Nat} {sc : Bool} {A : Nat → Prop} {H0 : Heap} {cc : ByteArray} {own : String} {E : Ev} {K : MV → Mm → Prop}
    (hx : p.tables.exec = Jvm.exec) (hb : c.code = cc) (hml : c.maxLocals = nL) (hown : s.vm.findClass own = some m.cls) (hts : ∀ w ∈ lw_g, w.before args s = true) (hK : va_K D vwCl (ty2 cI cB) s) (hN : nst s) (hA : ∀ q, H0.size ≤ q → A q) (hD : ∀ μ, va_D A (wl ad cI cB μ)) (hroom : cells ≤ R.cells ∧ slots ≤ R.slots)
    (hcl : ∀ a ce, lk E.2.1 a = some ce → ClOK l R own a ce) (hsc : sc = true → va_X b E.2.2.2.2.2.1 E.2.2.2.2.2.2 s H0 ∧ b < H0.size ∧ ¬ A b)
    (hret : ∀ (v : MV) (μ : Mm) (H : Heap) (locs : List Loc) (ls : Array Slot) (pc : Nat) (i : Instr), decode cc pc = .ok (i, 1) → K v μ → va_P D vwCl (wl ad cI cB μ) H → va_S A H0 H locs → wtv sc v → rtOK E.2.2.1 E.2.2.2.1 i v → W p l e R s m args below meth c H locs cells slots Q (F0 m pc ls (rst ad b v)))
    {pc : Nat} {o : Ao} (hd : decode cc pc = .ok (dcc pc o)) (hs : sid own nL o = true) (hv : vck E o = true) (hmm : 70 ≤ o.1 → 1 ≤ R.frames ∧ 21 ≤ R.locals) (L S : List MV) (μ : Mm) : opx E K (Wt p l e R s m args below meth c cells slots Q D ad b cI cB nL sc E.2.2.2.2.1 A H0) pc L S μ o → Wt p l e R s m args below meth c cells slots Q D ad b cI cB nL sc E.2.2.2.2.1 A H0 pc L S μ := by
  obtain ⟨tag, v, w, a, b', c', J⟩ := o
  intro h
  match tag, h, hd, hs, hv, hmm with
  | 0, h, hd, hs, hv, hmm =>
    intro H locs ls hl hwL hwS hP hS
    exact lv_iconst hx hb hd (Int32.ofInt_toInt v) (h H locs ls hl hwL (all_cons trivial hwS) hP hS)
  | 1, h, hd, hs, hv, hmm =>
    intro H locs ls hl hwL hwS hP hS
    exact lv_bipush hx hb hd (of_decide_eq_true hs) (h H locs ls hl hwL (all_cons trivial hwS) hP hS)
  | 2, h, hd, hs, hv, hmm =>
    intro H locs ls hl hwL hwS hP hS
    exact lv_sipush hx hb hd (of_decide_eq_true hs) (h H locs ls hl hwL (all_cons trivial hwS) hP hS)
  | 3, h, hd, hs, hv, hmm =>
    intro H locs ls hl hwL hwS hP hS
    exact lv_ldc hx hb hown (hts _ (mem_g (of_decide_eq_true hs) rfl)) hd (h H locs ls hl hwL (all_cons trivial hwS) hP hS)
  | 4, h, hd, hs, hv, hmm =>
    intro H locs ls hl hwL hwS hP hS
    exact lv_ldcw hx hb hown (hts _ (mem_g (of_decide_eq_true hs) rfl)) hd (h H locs ls hl hwL (all_cons trivial hwS) hP hS)
  | 5, h, hd, hs, hv, hmm =>
    intro H locs ls hl hwL hwS hP hS
    have hw := of_decide_eq_true hs
    rcases hw with rfl | rfl
    · exact lv_lconst (n := 0) hx hb hd rfl (h H locs ls hl hwL (all_cons trivial hwS) hP hS)
    · exact lv_lconst (n := 1) hx hb hd rfl (h H locs ls hl hwL (all_cons trivial hwS) hP hS)
  | 6, h, hd, hs, hv, hmm =>
    intro H locs ls hl hwL hwS hP hS
    exact lv_ldc2 hx hb hown (hts _ (mem_g (of_decide_eq_true hs) rfl)) hd (h H locs ls hl hwL (all_cons trivial hwS) hP hS)
  | 7, h, hd, hs, hv, hmm =>
    obtain ⟨x, hr, h9⟩ := ldI_ex h
    clear h
    have h := h9
    intro H locs ls hl hwL hwS hP hS
    exact lv_iload_n hx hb hd (fin4 (of_decide_eq_true hs)) (hl.at hr (by simp)) (h H locs ls hl hwL (all_cons trivial hwS) hP hS)
  | 8, h, hd, hs, hv, hmm =>
    obtain ⟨x, hr, h9⟩ := ldI_ex h
    clear h
    have h := h9
    intro H locs ls hl hwL hwS hP hS
    exact lv_iload hx hb hd (hl.at hr (by simp)) (h H locs ls hl hwL (all_cons trivial hwS) hP hS)
  | 9, h, hd, hs, hv, hmm =>
    obtain ⟨r, hr, h9⟩ := ldR_ex h
    clear h
    have h := h9
    intro H locs ls hl hwL hwS hP hS
    have h1 := hl.at hr (by simp)
    obtain ⟨z, hz⟩ := tv_ref ad b r
    rw [hz] at h1
    refine lv_aload_n hx hb hd (fin4 (of_decide_eq_true hs)) h1 ?_
    have h2 := h H locs ls hl hwL (all_cons (hwL _ (List.mem_of_getElem? hr)) hwS) hP hS
    rw [List.map_cons, hz] at h2
    exact h2
  | 10, h, hd, hs, hv, hmm =>
    obtain ⟨r, hr, h9⟩ := ldR_ex h
    clear h
    have h := h9
    intro H locs ls hl hwL hwS hP hS
    have h1 := hl.at hr (by simp)
    obtain ⟨z, hz⟩ := tv_ref ad b r
    rw [hz] at h1
    refine lv_aload hx hb hd h1 ?_
    have h2 := h H locs ls hl hwL (all_cons (hwL _ (List.mem_of_getElem? hr)) hwS) hP hS
    rw [List.map_cons, hz] at h2
    exact h2
  | 11, h, hd, hs, hv, hmm =>
    obtain ⟨x, hr, h9⟩ := ldJ_ex h
    clear h
    have h := h9
    intro H locs ls hl hwL hwS hP hS
    exact lv_lload_n hx hb hd (fin4 (of_decide_eq_true hs)) (hl.at hr (by simp)) (h H locs ls hl hwL (all_cons trivial hwS) hP hS)
  | 12, h, hd, hs, hv, hmm =>
    obtain ⟨x, hr, h9⟩ := ldJ_ex h
    clear h
    have h := h9
    intro H locs ls hl hwL hwS hP hS
    exact lv_lload hx hb hd (hl.at hr (by simp)) (h H locs ls hl hwL (all_cons trivial hwS) hP hS)
  | 13, h, hd, hs, hv, hmm =>
    obtain ⟨x, S', rfl, h9⟩ := pI_ex h
    clear h
    have h := h9
    intro H locs ls hl hwL hwS hP hS
    exact lv_istore_n hx hb hd (fin4 (of_decide_eq_true hs).1) hl.1 (of_decide_eq_true hs).2 rfl (fun ls' hl' => h H locs ls' (hl.sto1 (of_decide_eq_true hs).2 (by simp) (by simp) hl') (sto_wt hwL trivial) (all_tl hwS) hP hS)
  | 14, h, hd, hs, hv, hmm =>
    obtain ⟨x, S', rfl, h9⟩ := pI_ex h
    clear h
    have h := h9
    intro H locs ls hl hwL hwS hP hS
    exact lv_istore hx hb hd hl.1 (of_decide_eq_true hs) rfl (fun ls' hl' => h H locs ls' (hl.sto1 (of_decide_eq_true hs) (by simp) (by simp) hl') (sto_wt hwL trivial) (all_tl hwS) hP hS)
  | 15, h, hd, hs, hv, hmm =>
    obtain ⟨r, S', rfl, h9⟩ := pR_ex h
    clear h
    have h := h9
    intro H locs ls hl hwL hwS hP hS
    obtain ⟨z, hz⟩ := tv_ref ad b r
    rw [List.map_cons, hz]
    exact lv_astore_n hx hb hd (fin4 (of_decide_eq_true hs).1) hl.1 (of_decide_eq_true hs).2 rfl (fun ls' hl' => h H locs ls' (hl.sto1 (of_decide_eq_true hs).2 (by simp) (by simp) (by rw [hz]; exact hl')) (sto_wt hwL (all_hd hwS)) (all_tl hwS) hP hS)
  | 16, h, hd, hs, hv, hmm =>
    obtain ⟨r, S', rfl, h9⟩ := pR_ex h
    clear h
    have h := h9
    intro H locs ls hl hwL hwS hP hS
    obtain ⟨z, hz⟩ := tv_ref ad b r
    rw [List.map_cons, hz]
    exact lv_astore hx hb hd hl.1 (of_decide_eq_true hs) rfl (fun ls' hl' => h H locs ls' (hl.sto1 (of_decide_eq_true hs) (by simp) (by simp) (by rw [hz]; exact hl')) (sto_wt hwL (all_hd hwS)) (all_tl hwS) hP hS)
  | 17, h, hd, hs, hv, hmm =>
    obtain ⟨x, S', rfl, h9⟩ := pJ_ex h
    clear h
    have h := h9
    intro H locs ls hl hwL hwS hP hS
    cases hlg : E.2.2.2.2.1 with
    | false => rw [hlg] at h; exact h.elim
    | true =>
      rw [hlg, cond_true] at h
      rw [hlg] at hl
      refine lv_lstore_n hx hb hd (fin4 (of_decide_eq_true hs).1) hl.1 (of_decide_eq_true hs).2 rfl (fun ls' hl' => ?_)
      have h0 := h H locs ls'
      exact h0 (hl.sto2 (of_decide_eq_true hs).2 hl') (set_wt (sto_wt hwL trivial)) (all_tl hwS) hP hS
  | 18, h, hd, hs, hv, hmm =>
    obtain ⟨x, S', rfl, h9⟩ := pJ_ex h
    clear h
    have h := h9
    intro H locs ls hl hwL hwS hP hS
    cases hlg : E.2.2.2.2.1 with
    | false => rw [hlg] at h; exact h.elim
    | true =>
      rw [hlg, cond_true] at h
      rw [hlg] at hl
      refine lv_lstore hx hb hd hl.1 (of_decide_eq_true hs) rfl (fun ls' hl' => ?_)
      have h0 := h H locs ls'
      exact h0 (hl.sto2 (of_decide_eq_true hs) hl') (set_wt (sto_wt hwL trivial)) (all_tl hwS) hP hS
  | 19, h, hd, hs, hv, hmm =>
    obtain ⟨y, x, S', rfl, h9⟩ := pII_ex h
    clear h
    have h := h9
    intro H locs ls hl hwL hwS hP hS
    exact lv_iadd hx hb hd (h H locs ls hl hwL (all_cons trivial (all_tl (all_tl hwS))) hP hS)
  | 20, h, hd, hs, hv, hmm =>
    obtain ⟨y, x, S', rfl, h9⟩ := pII_ex h
    clear h
    have h := h9
    intro H locs ls hl hwL hwS hP hS
    exact lv_isub hx hb hd (h H locs ls hl hwL (all_cons trivial (all_tl (all_tl hwS))) hP hS)
  | 21, h, hd, hs, hv, hmm =>
    obtain ⟨y, x, S', rfl, h9⟩ := pII_ex h
    clear h
    have h := h9
    intro H locs ls hl hwL hwS hP hS
    exact lv_imul hx hb hd (h H locs ls hl hwL (all_cons trivial (all_tl (all_tl hwS))) hP hS)
  | 25, h, hd, hs, hv, hmm =>
    obtain ⟨y, x, S', rfl, h9⟩ := pII_ex h
    clear h
    have h := h9
    intro H locs ls hl hwL hwS hP hS
    exact lv_iand hx hb hd (h H locs ls hl hwL (all_cons trivial (all_tl (all_tl hwS))) hP hS)
  | 26, h, hd, hs, hv, hmm =>
    obtain ⟨y, x, S', rfl, h9⟩ := pII_ex h
    clear h
    have h := h9
    intro H locs ls hl hwL hwS hP hS
    exact lv_ior hx hb hd (h H locs ls hl hwL (all_cons trivial (all_tl (all_tl hwS))) hP hS)
  | 27, h, hd, hs, hv, hmm =>
    obtain ⟨y, x, S', rfl, h9⟩ := pII_ex h
    clear h
    have h := h9
    intro H locs ls hl hwL hwS hP hS
    exact lv_ixor hx hb hd (h H locs ls hl hwL (all_cons trivial (all_tl (all_tl hwS))) hP hS)
  | 28, h, hd, hs, hv, hmm =>
    obtain ⟨y, x, S', rfl, h9⟩ := pII_ex h
    clear h
    have h := h9
    intro H locs ls hl hwL hwS hP hS
    exact lv_ishl hx hb hd (h H locs ls hl hwL (all_cons trivial (all_tl (all_tl hwS))) hP hS)
  | 29, h, hd, hs, hv, hmm =>
    obtain ⟨y, x, S', rfl, h9⟩ := pII_ex h
    clear h
    have h := h9
    intro H locs ls hl hwL hwS hP hS
    exact lv_ishr hx hb hd (h H locs ls hl hwL (all_cons trivial (all_tl (all_tl hwS))) hP hS)
  | 30, h, hd, hs, hv, hmm =>
    obtain ⟨y, x, S', rfl, h9⟩ := pII_ex h
    clear h
    have h := h9
    intro H locs ls hl hwL hwS hP hS
    exact lv_iushr hx hb hd rfl (h H locs ls hl hwL (all_cons trivial (all_tl (all_tl hwS))) hP hS)
  | 22, h, hd, hs, hv, hmm =>
    obtain ⟨y, x, S', rfl, h9⟩ := pII_ex h
    clear h
    have h := h9
    intro H locs ls hl hwL hwS hP hS
    exact lv_idiv hx hb hd h.1 (h.2 H locs ls hl hwL (all_cons trivial (all_tl (all_tl hwS))) hP hS)
  | 23, h, hd, hs, hv, hmm =>
    obtain ⟨y, x, S', rfl, h9⟩ := pII_ex h
    clear h
    have h := h9
    intro H locs ls hl hwL hwS hP hS
    exact lv_irem hx hb hd h.1 (h.2 H locs ls hl hwL (all_cons trivial (all_tl (all_tl hwS))) hP hS)
  | 31, h, hd, hs, hv, hmm =>
    obtain ⟨y, x, S', rfl, h9⟩ := pJJ_ex h
    clear h
    have h := h9
    intro H locs ls hl hwL hwS hP hS
    exact lv_ladd hx hb hd (h H locs ls hl hwL (all_cons trivial (all_tl (all_tl hwS))) hP hS)
  | 32, h, hd, hs, hv, hmm =>
    obtain ⟨y, x, S', rfl, h9⟩ := pJJ_ex h
    clear h
    have h := h9
    intro H locs ls hl hwL hwS hP hS
    exact lv_lmul hx hb hd (h H locs ls hl hwL (all_cons trivial (all_tl (all_tl hwS))) hP hS)
  | 33, h, hd, hs, hv, hmm =>
    obtain ⟨y, x, S', rfl, h9⟩ := pJJ_ex h
    clear h
    have h := h9
    intro H locs ls hl hwL hwS hP hS
    exact lv_ldiv hx hb hd h.1 (h.2 H locs ls hl hwL (all_cons trivial (all_tl (all_tl hwS))) hP hS)
  | 34, h, hd, hs, hv, hmm =>
    obtain ⟨y, x, S', rfl, h9⟩ := pJJ_ex h
    clear h
    have h := h9
    intro H locs ls hl hwL hwS hP hS
    exact lv_lrem hx hb hd h.1 (h.2 H locs ls hl hwL (all_cons trivial (all_tl (all_tl hwS))) hP hS)
  | 35, h, hd, hs, hv, hmm =>
    obtain ⟨y, x, S', rfl, h9⟩ := pJJ_ex h
    clear h
    have h := h9
    intro H locs ls hl hwL hwS hP hS
    exact W.lcmp hx hb hd (h H locs ls hl hwL (all_cons trivial (all_tl (all_tl hwS))) hP hS)
  | 24, h, hd, hs, hv, hmm =>
    obtain ⟨x, S', rfl, h9⟩ := pI_ex h
    clear h
    have h := h9
    intro H locs ls hl hwL hwS hP hS
    exact lv_ineg hx hb hd (h H locs ls hl hwL (all_cons trivial (all_tl hwS)) hP hS)
  | 36, h, hd, hs, hv, hmm =>
    obtain ⟨x, S', rfl, h9⟩ := pI_ex h
    clear h
    have h := h9
    intro H locs ls hl hwL hwS hP hS
    exact lv_i2l hx hb hd rfl (h H locs ls hl hwL (all_cons trivial (all_tl hwS)) hP hS)
  | 37, h, hd, hs, hv, hmm =>
    obtain ⟨v, S', rfl, hvJ, h9⟩ := pV_ex (S := S) (k := fun v S => Wt p l e R s m args below meth c cells slots Q D ad b cI cB nL sc E.2.2.2.2.1 A H0 (pc + 1) L (v :: v :: S) μ) h
    clear h
    have h := h9
    intro H locs ls hl hwL hwS hP hS
    exact lv_dup hx hb hd (tv_cat hvJ) (h H locs ls hl hwL (all_cons (all_hd hwS) hwS) hP hS)
  | 38, h, hd, hs, hv, hmm =>
    obtain ⟨x, r, S', rfl, h9⟩ := pIR_ex h
    clear h
    have h := h9
    intro H locs ls hl hwL hwS hP hS
    exact lv_dup2_11 hx hb hd rfl (tv_cat (fun x q => by cases q)) (h H locs ls hl hwL (all_cons trivial (all_cons (all_hd (all_tl hwS)) hwS)) hP hS)
  | 39, h, hd, hs, hv, hmm =>
    obtain ⟨x, hr, h9⟩ := ldI_ex h
    clear h
    have h := h9
    intro H locs ls hl hwL hwS hP hS
    obtain ⟨k, hk⟩ := List.getElem?_of_mem (toL_of (ad := ad) (b := b) L 0 a (mI x) hr (by simp))
    rw [Nat.zero_add] at hk
    exact lv_iinc hx hb hd hl.1 hk (by rw [Int32.ofInt_toInt]) (of_decide_eq_true hs) rfl (fun ls' hl' => h H locs ls' (hl.sto1 (of_decide_eq_true hs) (by simp) (by simp) hl') (sto_wt hwL trivial) hwS hP hS)
  | 40, h, hd, hs, hv, hmm =>
    intro H locs ls hl hwL hwS hP hS
    exact lv_goto hx hb hd (by omega) (h H locs ls hl hwL hwS hP hS)
  | 41, h, hd, hs, hv, hmm =>
    obtain ⟨x, S', rfl, h9⟩ := pI_ex h
    clear h
    have h := h9
    intro H locs ls hl hwL hwS hP hS
    exact lv_if_eq (tgt := a) hx hb hd (by omega) (fun q => by rw [if_pos q] at h; exact h H locs ls hl hwL (all_tl hwS) hP hS) (fun q => by rw [if_neg q] at h; exact h H locs ls hl hwL (all_tl hwS) hP hS)
  | 47, h, hd, hs, hv, hmm =>
    obtain ⟨y, x, S', rfl, h9⟩ := pII_ex h
    clear h
    have h := h9
    intro H locs ls hl hwL hwS hP hS
    exact lv_icmp_eq (tgt := a) hx hb hd (by omega) (fun q => by rw [if_pos q] at h; exact h H locs ls hl hwL (all_tl (all_tl hwS)) hP hS) (fun q => by rw [if_neg q] at h; exact h H locs ls hl hwL (all_tl (all_tl hwS)) hP hS)
  | 42, h, hd, hs, hv, hmm =>
    obtain ⟨x, S', rfl, h9⟩ := pI_ex h
    clear h
    have h := h9
    intro H locs ls hl hwL hwS hP hS
    exact lv_if_ne (tgt := a) hx hb hd (by omega) (fun q => by rw [if_neg q] at h; exact h H locs ls hl hwL (all_tl hwS) hP hS) (fun q => by rw [if_pos q] at h; exact h H locs ls hl hwL (all_tl hwS) hP hS)
  | 48, h, hd, hs, hv, hmm =>
    obtain ⟨y, x, S', rfl, h9⟩ := pII_ex h
    clear h
    have h := h9
    intro H locs ls hl hwL hwS hP hS
    exact lv_icmp_ne (tgt := a) hx hb hd (by omega) (fun q => by rw [if_neg q] at h; exact h H locs ls hl hwL (all_tl (all_tl hwS)) hP hS) (fun q => by rw [if_pos q] at h; exact h H locs ls hl hwL (all_tl (all_tl hwS)) hP hS)
  | 43, h, hd, hs, hv, hmm =>
    obtain ⟨x, S', rfl, h9⟩ := pI_ex h
    clear h
    have h := h9
    intro H locs ls hl hwL hwS hP hS
    exact lv_if_lt (tgt := a) hx hb hd (by omega) (fun q => by rw [if_pos q] at h; exact h H locs ls hl hwL (all_tl hwS) hP hS) (fun q => by rw [if_neg q] at h; exact h H locs ls hl hwL (all_tl hwS) hP hS)
  | 49, h, hd, hs, hv, hmm =>
    obtain ⟨y, x, S', rfl, h9⟩ := pII_ex h
    clear h
    have h := h9
    intro H locs ls hl hwL hwS hP hS
    exact lv_icmp_lt (tgt := a) hx hb hd (by omega) (fun q => by rw [if_pos q] at h; exact h H locs ls hl hwL (all_tl (all_tl hwS)) hP hS) (fun q => by rw [if_neg q] at h; exact h H locs ls hl hwL (all_tl (all_tl hwS)) hP hS)
  | 44, h, hd, hs, hv, hmm =>
    obtain ⟨x, S', rfl, h9⟩ := pI_ex h
    clear h
    have h := h9
    intro H locs ls hl hwL hwS hP hS
    exact lv_if_ge (tgt := a) hx hb hd (by omega) (fun q => by rw [if_pos q] at h; exact h H locs ls hl hwL (all_tl hwS) hP hS) (fun q => by rw [if_neg q] at h; exact h H locs ls hl hwL (all_tl hwS) hP hS)
  | 50, h, hd, hs, hv, hmm =>
    obtain ⟨y, x, S', rfl, h9⟩ := pII_ex h
    clear h
    have h := h9
    intro H locs ls hl hwL hwS hP hS
    exact lv_icmp_ge (tgt := a) hx hb hd (by omega) (fun q => by rw [if_pos q] at h; exact h H locs ls hl hwL (all_tl (all_tl hwS)) hP hS) (fun q => by rw [if_neg q] at h; exact h H locs ls hl hwL (all_tl (all_tl hwS)) hP hS)
  | 45, h, hd, hs, hv, hmm =>
    obtain ⟨x, S', rfl, h9⟩ := pI_ex h
    clear h
    have h := h9
    intro H locs ls hl hwL hwS hP hS
    exact lv_if_gt (tgt := a) hx hb hd (by omega) (fun q => by rw [if_pos q] at h; exact h H locs ls hl hwL (all_tl hwS) hP hS) (fun q => by rw [if_neg q] at h; exact h H locs ls hl hwL (all_tl hwS) hP hS)
  | 51, h, hd, hs, hv, hmm =>
    obtain ⟨y, x, S', rfl, h9⟩ := pII_ex h
    clear h
    have h := h9
    intro H locs ls hl hwL hwS hP hS
    exact lv_icmp_gt (tgt := a) hx hb hd (by omega) (fun q => by rw [if_pos q] at h; exact h H locs ls hl hwL (all_tl (all_tl hwS)) hP hS) (fun q => by rw [if_neg q] at h; exact h H locs ls hl hwL (all_tl (all_tl hwS)) hP hS)
  | 46, h, hd, hs, hv, hmm =>
    obtain ⟨x, S', rfl, h9⟩ := pI_ex h
    clear h
    have h := h9
    intro H locs ls hl hwL hwS hP hS
    exact lv_if_le (tgt := a) hx hb hd (by omega) (fun q => by rw [if_pos q] at h; exact h H locs ls hl hwL (all_tl hwS) hP hS) (fun q => by rw [if_neg q] at h; exact h H locs ls hl hwL (all_tl hwS) hP hS)
  | 52, h, hd, hs, hv, hmm =>
    obtain ⟨y, x, S', rfl, h9⟩ := pII_ex h
    clear h
    have h := h9
    intro H locs ls hl hwL hwS hP hS
    exact lv_icmp_le (tgt := a) hx hb hd (by omega) (fun q => by rw [if_pos q] at h; exact h H locs ls hl hwL (all_tl (all_tl hwS)) hP hS) (fun q => by rw [if_neg q] at h; exact h H locs ls hl hwL (all_tl (all_tl hwS)) hP hS)
  | 53, h, hd, hs, hv, hmm =>
    obtain ⟨r, S', rfl, h9⟩ := pR_ex h
    clear h
    have h := h9
    intro H locs ls hl hwL hwS hP hS
    obtain ⟨z, hz⟩ := tv_ref ad b r
    rw [List.map_cons, hz]
    exact lv_ifnull hx hb hd (h H locs ls hl hwL (all_tl hwS) hP hS)
  | 54, h, hd, hs, hv, hmm =>
    obtain ⟨r, S', rfl, h9⟩ := pR_ex h
    clear h
    have h := h9
    intro H locs ls hl hwL hwS hP hS
    obtain ⟨z, hz⟩ := tv_ref ad b r
    rw [List.map_cons, hz]
    exact lv_ifnonnull hx hb hd (by omega) (h H locs ls hl hwL (all_tl hwS) hP hS)
  | 55, h, hd, hs, hv, hmm =>
    obtain ⟨t, c0, S', rfl, h9⟩ := pO_ex h
    have hs : sfld own a b' c' = true := hs
    cases ht : Nat.beq t (b' / 32) with
    | false => rw [ht] at h9; exact h9.elim
    | true =>
      rw [ht, cond_true] at h9
      have ht := Nat.eq_of_beq_eq_true ht
      subst ht
      obtain ⟨q, hq, hk, hw⟩ := sfld_ex hs
      obtain ⟨ty0, hin, hty, hnm, hlen, hknd⟩ := cls_ok _ _ hq
      have hlink := hts _ (mem_g hw rfl)
      intro H locs ls hl hwL hwS hP hS
      obtain ⟨hly, htl⟩ : lyL[c0]? = some (b' / 32, 0) ∧ b' / 32 < 10 := hwS (mO (b' / 32) c0) (by simp)
      have h1 := h9 H locs ls hl hwL (all_cons (lay_wt hly htl (by rw [hlen]; exact hk)) (all_tl hwS)) hP hS
      rw [List.map_cons, tv_mF] at h1
      exact va_get hx hb hts hin hown hK hP c0 ((wl_get hly).trans (by rw [cE_obj htl])) hq (b' % 32) hk hlink (fun _ h9 => h9) (fs_get (by rw [hlen]; exact hk)) hd h1
  | 56, h, hd, hs, hv, hmm =>
    obtain ⟨x, t, c0, S', rfl, h9⟩ := pIO_ex h
    have hs : sfld own a b' c' = true := hs
    cases ht : Nat.beq t (b' / 32) with
    | false => rw [ht] at h9; exact h9.elim
    | true =>
      rw [ht, cond_true] at h9
      have ht := Nat.eq_of_beq_eq_true ht
      subst ht
      obtain ⟨q, hq, hk, hw⟩ := sfld_ex hs
      obtain ⟨ty0, hin, hty, hnm, hlen, hknd⟩ := cls_ok _ _ hq
      have hlink := hts _ (mem_g hw rfl)
      intro H locs ls hl hwL hwS hP hS
      obtain ⟨hly, htl⟩ : lyL[c0]? = some (b' / 32, 0) ∧ b' / 32 < 10 := hwS (mO (b' / 32) c0) (by simp)
      have hge := (wl_get (ad := ad) (cI := cI) (cB := cB) (μ := μ) hly).trans (by rw [cE_obj htl])
      have hset : ∀ hk01 : (fo (b' / 32) (b' % 32)).1 = 0 ∨ (fo (b' / 32) (b' % 32)).1 = 1, (wl ad cI cB μ).set c0 (ad c0, .inr (b' / 32, (fsO ad μ c0 (b' / 32)).set (b' % 32) (.int x))) = wl ad cI cB (mS μ c0 (b' % 32) x) := fun hk01 => wl_set hly (by rw [cE_obj htl, fs_set (by rw [hlen]; exact hk) hk01])
      have hfl : b' % 32 < (fsO ad μ c0 (b' / 32)).length := by unfold fsO; rw [List.length_mapIdx, hlen]; exact hk
      rcases ptF_ex h9 with ⟨e0, h8⟩ | ⟨e0, hz, h8⟩
      · obtain ⟨ht0, hf0⟩ := (hknd _ hk).1 e0
        exact va_put hx hb hts hin ty0 hty hnm hown hK hP (hD μ) hS c0 hge hq (b' % 32) hk hlink (fun _ h9 => h9) hf0 (v := .int x) (ty := .int) (by rw [hty _ hk, ht0]) rfl rfl hfl hd (fun H1 locs1 hP1 _ hS1 => h8 H1 locs1 ls hl hwL (all_tl (all_tl hwS)) (by rw [hset (Or.inl e0)] at hP1; exact hP1) hS1)
      · obtain ⟨ht0, hf0⟩ := (hknd _ hk).2 e0
        exact va_put hx hb hts hin ty0 hty hnm hown hK hP (hD μ) hS c0 hge hq (b' % 32) hk hlink (fun _ h9 => h9) hf0 (v := .int x) (ty := .boolean) (by rw [hty _ hk, ht0]) (zb_narrow hz) (zb_fits hz) hfl hd (fun H1 locs1 hP1 _ hS1 => h8 H1 locs1 ls hl hwL (all_tl (all_tl hwS)) (by rw [hset (Or.inr e0)] at hP1; exact hP1) hS1)
  | 57, h, hd, hs, hv, hmm =>
    rcases pIA_ex h with ⟨i, n, c0, S', rfl, h9⟩ | ⟨i, z1, z2, S', rfl, h9⟩
    · clear h
      have h := h9
      intro H locs ls hl hwL hwS hP hS
      have hly : lyL[c0]? = some (20, n) := hwS (mA n c0) (by simp)
      exact va_iald hx hb hK hP c0 0 (wl_get hly) rfl (vi_in h.1) hd (h.2 H locs ls hl hwL (all_cons trivial (all_tl (all_tl hwS))) hP hS)
    · clear h
      have h := h9
      intro H locs ls hl hwL hwS hP hS
      have hz : sc = true := hwS (mR 3 z1 z2) (by simp)
      obtain ⟨hX, hbl, hbA⟩ := hsc hz
      exact va_sld hx hb hX hbl hbA hS (vi_in h.1) hd (h.2 H locs ls hl hwL (all_cons trivial (all_tl (all_tl hwS))) hP hS)
  | 58, h, hd, hs, hv, hmm =>
    obtain ⟨x, i, n, c0, S', rfl, h9⟩ := pIIA_ex h
    clear h
    have h := h9
    intro H locs ls hl hwL hwS hP hS
    have hly : lyL[c0]? = some (20, n) := hwS (mA n c0) (by simp)
    exact va_iast hx hb hK hP (hD μ) hS c0 0 (wl_get hly) rfl (vi_in h.1) hd (fun H1 locs1 hP1 _ hS1 => h.2 H1 locs1 ls hl hwL (all_tl (all_tl (all_tl hwS))) (by rw [wl_set (x := x) (k := i.toNatClampNeg) hly (by rw [upd_mS]; rfl)] at hP1; exact hP1) hS1)
  | 59, h, hd, hs, hv, hmm =>
    obtain ⟨i, n, c0, S', rfl, h9⟩ := pIZ_ex h
    clear h
    have h := h9
    intro H locs ls hl hwL hwS hP hS
    have hly : lyL[c0]? = some (21, n) := (show 2 = 2 ∧ lyL[c0]? = some (21, n) from hwS (mZ n c0) (by simp)).2
    exact va_zald hx hb hK hP c0 1 (wl_get hly) rfl (vi_in h.1) hd (h.2 H locs ls hl hwL (all_cons trivial (all_tl (all_tl hwS))) hP hS)
  | 60, h, hd, hs, hv, hmm =>
    obtain ⟨x, i, n, c0, S', rfl, h9⟩ := pIIZ_ex h
    clear h
    have h := h9
    intro H locs ls hl hwL hwS hP hS
    have hly : lyL[c0]? = some (21, n) := (show 2 = 2 ∧ lyL[c0]? = some (21, n) from hwS (mZ n c0) (by simp)).2
    exact va_zast hx hb hK hP (hD μ) hS c0 1 (wl_get hly) rfl (vi_in h.1.2) hd (fun H1 locs1 hP1 _ hS1 => h.2 H1 locs1 ls hl hwL (all_tl (all_tl (all_tl hwS))) (by rw [zb_nar h.1.1, wl_set (x := x) (k := i.toNatClampNeg) hly (by rw [upd_mS]; rfl)] at hP1; exact hP1) hS1)
  | 61, h, hd, hs, hv, hmm =>
    rcases pA_ex h with ⟨n, c0, S', rfl, h9⟩ | ⟨z1, z2, S', rfl, h9⟩
    · clear h
      have h := h9
      intro H locs ls hl hwL hwS hP hS
      have hly : lyL[c0]? = some (20, n) := hwS (mA n c0) (by simp)
      exact va_alen hx hb hK hP c0 0 (wl_get hly) (ty := .int) rfl (v := nI n) rfl hd (h H locs ls hl hwL (all_cons trivial (all_tl hwS)) hP hS)
    · clear h
      have h := h9
      intro H locs ls hl hwL hwS hP hS
      have hz : sc = true := hwS (mR 3 z1 z2) (by simp)
      obtain ⟨hX, hbl, hbA⟩ := hsc hz
      exact va_slen hx hb hX hbl hbA hS hd (h H locs ls hl hwL (all_cons trivial (all_tl hwS)) hP hS)
  | 62, h, hd, hs, hv, hmm =>
    exact cll_sound (K := K) hx hb hml hown hts hK hN hA hD hroom hcl hsc (Or.inl hd) (fun ce hce => ⟨fun _ => vck_v hv hce, fun _ => hd⟩) h
  | 63, h, hd, hs, hv, hmm =>
    exact cll_sound (K := K) hx hb hml hown hts hK hN hA hD hroom hcl hsc (Or.inr hd) (fun ce hce => ⟨fun z => (by rw [show decode cc pc = .ok (.invokestatic a, 3) from hd] at z; cases z), fun z => absurd (vck_s hv hce) z⟩) h
  | 64, h, hd, hs, hv, hmm =>
    obtain ⟨x, rfl, h9⟩ := rI_ex h
    rcases h9 with ⟨e, h⟩ | ⟨e, h⟩
    · intro H locs ls hl hwL hwS hP hS
      exact hret (mI x) μ H locs ls pc _ hd h hP hS trivial (by rw [e]; exact ⟨rfl, x, rfl⟩)
    · intro H locs ls hl hwL hwS hP hS
      exact hret (mI x) μ H locs ls pc _ hd h.2 hP hS trivial (by rw [e]; exact ⟨rfl, x, rfl, h.1⟩)
  | 65, h, hd, hs, hv, hmm =>
    obtain ⟨x, rfl, e, h9⟩ := rJ_ex h
    clear h
    have h := h9
    intro H locs ls hl hwL hwS hP hS
    exact hret (mJ x) μ H locs ls pc _ hd h hP hS trivial (by rw [e]; exact ⟨rfl, x, rfl⟩)
  | 66, h, hd, hs, hv, hmm =>
    obtain ⟨rfl, e, h9⟩ := rV_ex h
    clear h
    have h := h9
    intro H locs ls hl hwL hwS hP hS
    exact hret mU μ H locs ls pc _ hd h hP hS trivial (by rw [e]; exact ⟨rfl, rfl⟩)
  | 67, h, hd, hs, hv, hmm =>
    obtain ⟨c0, rfl, e, h9⟩ := rO_ex h
    clear h
    have h := h9
    intro H locs ls hl hwL hwS hP hS
    exact hret (mO E.2.2.2.1 c0) μ H locs ls pc _ hd h hP hS (all_hd hwS) (by rw [e]; exact ⟨rfl, c0, rfl⟩)
  | 68, h, hd, hs, hv, hmm =>
    obtain ⟨x, S', rfl, h9⟩ := pI_ex h
    clear h
    have h := h9
    intro H locs ls hl hwL hwS hP hS
    have hkey : ∀ i, i < J.length → (J.getD i (0, 0)).1.toInt = (J.headD (0, 0)).1.toInt + i := fun i hi => of_decide_eq_true (List.all_eq_true.mp hs i (List.mem_range.mpr hi))
    rcases swt_tbl h with ⟨i, q, h1, h2, h3⟩ | ⟨h1, h3⟩
    · have hi : i < J.length := (List.getElem?_eq_some_iff.mp h1).1
      have e1 := hkey i hi
      rw [List.getD_eq_getElem?_getD, h1, Option.getD_some] at e1
      refine lv_tableIn (tgt := q.2) (off := (q.2 : Int) - pc) hx hb hd (by rw [h2, e1]; omega) (by rw [h2, e1]; omega) ?_ (by omega) (h3 H locs ls hl hwL (all_tl hwS) hP hS)
      rw [h2, e1, show ((J.headD (0, 0)).1.toInt + (i : Int) - (J.headD (0, 0)).1.toInt).toNat = i by omega]
      simp [h1]
    · refine lv_tableOut (tgt := a) hx hb hd ?_ (by omega) (h3 H locs ls hl hwL (all_tl hwS) hP hS)
      rcases Int.lt_or_le x.toInt (J.headD (0, 0)).1.toInt with z | z
      · exact Or.inl z
      · rcases Int.lt_or_le ((J.headD (0, 0)).1.toInt + J.length - 1) x.toInt with z2 | z2
        · exact Or.inr z2
        · exfalso
          have hi : (x.toInt - (J.headD (0, 0)).1.toInt).toNat < J.length := by omega
          have e1 := hkey _ hi
          have e2 := List.getElem?_eq_getElem hi
          rw [List.getD_eq_getElem?_getD, e2, Option.getD_some] at e1
          exact h1 _ (List.mem_of_getElem? e2) (Int32.toInt_inj.mp (by omega))
  | 69, h, hd, hs, hv, hmm =>
    obtain ⟨x, S', rfl, h9⟩ := pI_ex h
    clear h
    have h := h9
    intro H locs ls hl hwL hwS hP hS
    obtain ⟨t, h3, h4⟩ := swt_lku (pc := pc) h
    refine lv_lookup (tgt := t) hx hb hd ?_ h4 (by omega) (h3 H locs ls hl hwL (all_tl hwS) hP hS)
    exact srt_ok hs
  | 70, h, hd, hs, hv, hmm =>
    obtain ⟨y, x, S', rfl, h9⟩ := pII_ex h
    clear h
    intro H locs ls hl hwL hwS hP hS
    cases hct : Nat.ble (ctS S') 8 with
    | false => rw [hct] at h9; exact h9.elim
    | true =>
      rw [hct, cond_true] at h9
      have hct := Nat.le_of_ble_eq_true hct
      have hR := hmm (Nat.le_of_ble_eq_true rfl)
      have hcs := ctS_sum (ad := ad) (b := b) S'
      exact va_mmin hx hb (hml.trans hl.1.1.symm) hown (hts _ (mem_g (of_decide_eq_true hs) rfl)) (hts _ w_min.1) (hts _ w_min.2.1) (hts _ w_min.2.2) hR.1 (by omega) hroom.1 hroom.2 hd (h9 H locs ls hl hwL (all_cons trivial (all_tl (all_tl hwS))) hP hS)
  | 71, h, hd, hs, hv, hmm =>
    obtain ⟨y, x, S', rfl, h9⟩ := pII_ex h
    clear h
    intro H locs ls hl hwL hwS hP hS
    cases hct : Nat.ble (ctS S') 8 with
    | false => rw [hct] at h9; exact h9.elim
    | true =>
      rw [hct, cond_true] at h9
      have hct := Nat.le_of_ble_eq_true hct
      have hR := hmm (Nat.le_of_ble_eq_true rfl)
      have hcs := ctS_sum (ad := ad) (b := b) S'
      exact va_mmax hx hb (hml.trans hl.1.1.symm) hown (hts _ (mem_g (of_decide_eq_true hs) rfl)) (hts _ w_max.1) (hts _ w_max.2.1) (hts _ w_max.2.2) hR.1 (by omega) hroom.1 hroom.2 hd (h9 H locs ls hl hwL (all_cons trivial (all_tl (all_tl hwS))) hP hS)
  | n + 72, h, hd, hs, hv, hmm =>
    exact absurd hs (by simp [sid_big])