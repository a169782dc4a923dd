/-! ===== printed by program: the constructors ===== -/
def fsr (ad : Nat → Nat) (μ : Mm) (c : Nat) : Nat → List (Nat × Nat × Nat) → List Value
  | _, [] => []
  | k, f :: l => tv ad 0 (mF μ c k f) :: fsr ad μ c (k + 1) l
theorem fsr_eq {ad : Nat → Nat} {μ : Mm} {c : Nat} (l : List (Nat × Nat × Nat)) : l.mapIdx (fun k f => tv ad 0 (mF μ c k f)) = fsr ad μ c 0 l := by
  have h : ∀ (l : List (Nat × Nat × Nat)) (n : Nat), l.mapIdx (fun k f => tv ad 0 (mF μ c (k + n) f)) = fsr ad μ c n l := by
    intro l
    induction l with
    | nil => intro n; rfl
    | cons q l ih =>
      intro n
      rw [List.mapIdx_cons]
      show _ = tv ad 0 (mF μ c n q) :: fsr ad μ c (n + 1) l
      rw [← ih (n + 1), Nat.zero_add]
      congr 1
      congr 1
      funext k f
      rw [show k + 1 + n = k + (n + 1) by omega]
  exact h l 0
def cEr (ad : Nat → Nat) (cI cB : Nat) (μ : Mm) (c : Nat) (q : Nat × Nat) : va_E :=
  if q.1 = 20 then .inl (cI, q.2, .inl (μ c)) else if q.1 = 21 then .inl (cB, q.2, .inl (μ c)) else .inr (q.1, fsr ad μ c 0 (foL.getD q.1 []))
theorem cE_r {ad : Nat → Nat} {cI cB : Nat} {μ : Mm} {c : Nat} {q : Nat × Nat} : cE ad cI cB μ c q = cEr ad cI cB μ c q := by
  unfold cE cEr
  rw [fsr_eq]
def wlr (ad : Nat → Nat) (cI cB : Nat) (μ : Mm) : Nat → List (Nat × Nat) → va_W
  | _, [] => []
  | n, q :: l => (ad n, cEr ad cI cB μ n q) :: wlr ad cI cB μ (n + 1) l
theorem wlg_r {ad : Nat → Nat} {cI cB : Nat} {μ : Mm} {l : List (Nat × Nat)} : wlg ad cI cB μ l = wlr ad cI cB μ 0 l := by
  have h : ∀ (l : List (Nat × Nat)) (n : Nat), l.mapIdx (fun c q => (ad (c + n), cE ad cI cB μ (c + n) q)) = wlr ad cI cB μ n l := by
    intro l
    induction l with
    | nil => intro n; rfl
    | cons q l ih =>
      intro n
      rw [List.mapIdx_cons]
      show _ = (ad n, cEr ad cI cB μ n q) :: wlr ad cI cB μ (n + 1) l
      rw [← ih (n + 1), Nat.zero_add, cE_r]
      congr 1
      congr 1
      funext c q
      rw [show c + 1 + n = c + (n + 1) by omega]
  exact h l 0
def muR (rows : List (Nat → Int32)) : Mm := fun c => rows.getD c zr
def fSt : Nat → Int32 := fun k => [4, 5, 1, 0, 5].getD k 0
def fOr : Nat → Int32 := upd (upd (upd (upd (upd (upd zr (0 : Int32).toNatClampNeg 0) (1 : Int32).toNatClampNeg 1) (2 : Int32).toNatClampNeg 2) (3 : Int32).toNatClampNeg 3) (4 : Int32).toNatClampNeg 4) (5 : Int32).toNatClampNeg 5
def ly3 : List (Nat × Nat) := [(3, 0), (20, 48)]
def ly7 : List (Nat × Nat) := [(6, 0), (20, 6), (20, 6), (20, 6)]
def ly8 : List (Nat × Nat) := lyS
def ly2 : List (Nat × Nat) := [(2, 0)] ++ ly8
def ly4 : List (Nat × Nat) := [(4, 0), (20, 6)]
def ly6 : List (Nat × Nat) := [(5, 0), (20, 2048), (20, 8)]
def ly1 : List (Nat × Nat) := [(1, 0), (20, 100), (20, 100)]
def ly0 : List (Nat × Nat) := [(0, 0), (20, 8)]
def ly9 : List (Nat × Nat) := (((((((([(8, 0)] ++ ly3) ++ ly8) ++ ly8) ++ ly2) ++ ly2) ++ ly4) ++ ly6) ++ ly1) ++ ly0
def mu3 : Mm := muR []
def mu7 : Mm := muR []
def mu8 : Mm := muR [fSt, fOr]
def mu2 : Mm := muR [zr, fSt, fOr]
def mu4 : Mm := muR []
def mu6 : Mm := muR []
def mu1 : Mm := muR []
def mu0 : Mm := muR []
def mu9 : Mm := muR [zr, zr, zr, fSt, fOr, zr, zr, zr, zr, zr, zr, zr, zr, fSt, fOr, zr, zr, zr, zr, zr, zr, zr, zr, zr, fSt, fOr, zr, zr, zr, zr, zr, zr, zr, zr, zr, fSt, fOr]
def y_X3_init : MethodName := ⟨"ActsPaid$Pad", "<init>", "()V"⟩
theorem dd_X3_0 : decode prog_5_method_1_code 0 = .ok (.aload_n 0, 1) := by decide +kernel
theorem dd_X3_1 : decode prog_5_method_1_code 1 = .ok (.invokespecial 3, 3) := by decide +kernel
theorem dd_X3_4 : decode prog_5_method_1_code 4 = .ok (.aload_n 0, 1) := by decide +kernel
theorem dd_X3_5 : decode prog_5_method_1_code 5 = .ok (.bipush 48, 2) := by decide +kernel
theorem dd_X3_7 : decode prog_5_method_1_code 7 = .ok (.newarray .int, 2) := by decide +kernel
theorem dd_X3_9 : decode prog_5_method_1_code 9 = .ok (.putfield 9, 3) := by decide +kernel
theorem dd_X3_12 : decode prog_5_method_1_code 12 = .ok (.return_, 1) := by decide +kernel
set_option maxHeartbeats 4000000 in
set_option maxRecDepth 100000 in
theorem ic_X3 (l : Launch) : IC l y_X3_init prog_5_method_1_code { frames := 1, cells := 1, slots := 48, locals := 12 } 3 [.null, .int 0] ly3 mu3 1 48 := by
  intro D cI cB h0 sz
  refine Met.ofW (cc := prog_5_method_1_code) (maxL := 1) (ret := none) (by decide) rfl ?_
  intro p e s m args below meth c s₁ B hml hv
  obtain ⟨rfl, hsz, hP, hK, hD0⟩ := hv
  have hx := B.exec
  have hb := B.bytes
  have hr := B.returns
  have hts0 := atoms_spec (ws := Cond.code y_X3_init prog_5_method_1_code 1 none :: lw_g) B.pre
  have hts : ∀ w ∈ lw_g, w.before ([Value.ref h0] : List Value).toArray s = true := fun w hw => hts0 w (List.mem_cons_of_mem _ hw)
  have hown : s.vm.findClass RX3 = some m.cls := findClass_of_methodNamed B.named
  have hlocks := B.notSynchronized
  have hin : meth.name = "<init>" := (name_of_methodNamed B.named B.method).1
  subst hsz
  have hD := hD0.self (sz := s.heap.size)
  generalize hAe : va_A [(h0, .inr (3, [.null, .int 0]))] s.heap.size = A at hD ⊢
  have hA : ∀ q : Nat, s.heap.size ≤ q → A q := fun q h => by rw [← hAe]; exact Or.inr h
  have hS : va_S A s.heap s.heap [] := va_S.rf
  have hl := lv_entry ([.ref h0]) (n := 1) (Nat.le_of_ble_eq_true rfl)
  rw [lg_entry_eq]
  generalize (lg_sl ([.ref h0]) ++ List.replicate (1 - (lg_sl ([.ref h0])).length) Slot.unset).toArray = ls at hl ⊢
  have hl : lv_has ls 1 [(0, .ref h0)] := hl
  have hP : va_P D vwCl [(h0, .inr (3, [.null, .int 0]))] s.heap := hP
  refine lv_aload_n hx hb dd_X3_0 rfl (lv_at hl 0 rfl) ?_
  refine W.objInit hx hb hown (hts _ (mg 51 (by decide +kernel))) (hts _ (mg 44 (by decide +kernel))) (hts _ (mem_g (i := 45) (by decide +kernel) rfl)) rfl (by rw [hml]; exact hl.1) rfl dd_X3_1 (Nat.le_of_ble_eq_true rfl) (Nat.le_of_ble_eq_true rfl) ?_
  refine W.eq (g2 := F0 m 4 ls []) rfl ?_
  refine lv_aload_n hx hb dd_X3_4 rfl (lv_at hl 0 rfl) ?_
  refine lv_bipush (v := 48) hx hb dd_X3_5 (by decide) ?_
  refine nwI (D := D) (cI := cI) (cB := cB) hx hb (hts _ (mg 60 (by decide +kernel))) hK hP hD hS hA 48 (by decide) (by decide) (by decide) (Nat.le_of_ble_eq_true rfl) (Nat.le_of_ble_eq_true rfl) dd_X3_7 (fun q1 H hP hD hS => ?_)
  have hP : va_P D vwCl [(h0, .inr (3, [.null, .int 0])), (q1, .inl (cI, 48, .inl zr))] H := hP
  have hD : va_D A [(h0, .inr (3, [.null, .int 0])), (q1, .inl (cI, 48, .inl zr))] := hD
  refine va_putF (D := D) (ci := 3) (v := .ref q1) (ty := .array .int) (C := RX3) (T := TX3) (N := 2) hx hb hts iX3 tyX3 tyX3_ok nmX3 hown hK hP hD hS 0 rfl rfl 0 (by decide) (hts _ (mg 52 (by decide +kernel))) (fun _ h9 => h9) rfl hin rfl (by decide +kernel) rfl rfl (Nat.le_of_ble_eq_true rfl) dd_X3_9 (fun H locs hP hD hS => ?_)
  have hP : va_P D vwCl [(h0, .inr (3, [.ref q1, .int 0])), (q1, .inl (cI, 48, .inl zr))] H := hP
  have hD : va_D A [(h0, .inr (3, [.ref q1, .int 0])), (q1, .inl (cI, 48, .inl zr))] := hD
  have hfin : ([(h0, .inr (3, [.ref q1, .int 0])), (q1, .inl (cI, 48, .inl zr))] : va_W) = wlg (fun c => if c < 1 then h0 else q1) cI cB mu3 ly3 := by
    simp only [wlg_r]
    rfl
  rw [hfin] at hP hD
  refine W.widen (k := 1) (n := 48) (Nat.le_of_ble_eq_true rfl) (Nat.le_of_ble_eq_true rfl) ?_
  exact W.vret hx hb hr (fun t ht hW => ⟨⟨_, rfl, rfl, by rw [ht]; exact hP, hD⟩, hS.F ht⟩) hS.2.2 dd_X3_12
def y_X7_init : MethodName := ⟨"ActsPaid$Sights", "<init>", "()V"⟩
theorem dd_X7_0 : decode prog_9_method_1_code 0 = .ok (.aload_n 0, 1) := by decide +kernel
theorem dd_X7_1 : decode prog_9_method_1_code 1 = .ok (.invokespecial 3, 3) := by decide +kernel
theorem dd_X7_4 : decode prog_9_method_1_code 4 = .ok (.aload_n 0, 1) := by decide +kernel
theorem dd_X7_5 : decode prog_9_method_1_code 5 = .ok (.bipush 6, 2) := by decide +kernel
theorem dd_X7_7 : decode prog_9_method_1_code 7 = .ok (.newarray .int, 2) := by decide +kernel
theorem dd_X7_9 : decode prog_9_method_1_code 9 = .ok (.putfield 9, 3) := by decide +kernel
theorem dd_X7_12 : decode prog_9_method_1_code 12 = .ok (.aload_n 0, 1) := by decide +kernel
theorem dd_X7_13 : decode prog_9_method_1_code 13 = .ok (.bipush 6, 2) := by decide +kernel
theorem dd_X7_15 : decode prog_9_method_1_code 15 = .ok (.newarray .int, 2) := by decide +kernel
theorem dd_X7_17 : decode prog_9_method_1_code 17 = .ok (.putfield 15, 3) := by decide +kernel
theorem dd_X7_20 : decode prog_9_method_1_code 20 = .ok (.aload_n 0, 1) := by decide +kernel
theorem dd_X7_21 : decode prog_9_method_1_code 21 = .ok (.bipush 6, 2) := by decide +kernel
theorem dd_X7_23 : decode prog_9_method_1_code 23 = .ok (.newarray .int, 2) := by decide +kernel
theorem dd_X7_25 : decode prog_9_method_1_code 25 = .ok (.putfield 18, 3) := by decide +kernel
theorem dd_X7_28 : decode prog_9_method_1_code 28 = .ok (.return_, 1) := by decide +kernel
set_option maxHeartbeats 4000000 in
set_option maxRecDepth 100000 in
theorem ic_X7 (l : Launch) : IC l y_X7_init prog_9_method_1_code { frames := 1, cells := 3, slots := 18, locals := 12 } 6 [.int 0, .null, .null, .null] ly7 mu7 3 18 := by
  intro D cI cB h0 sz
  refine Met.ofW (cc := prog_9_method_1_code) (maxL := 1) (ret := none) (by decide) rfl ?_
  intro p e s m args below meth c s₁ B hml hv
  obtain ⟨rfl, hsz, hP, hK, hD0⟩ := hv
  have hx := B.exec
  have hb := B.bytes
  have hr := B.returns
  have hts0 := atoms_spec (ws := Cond.code y_X7_init prog_9_method_1_code 1 none :: lw_g) B.pre
  have hts : ∀ w ∈ lw_g, w.before ([Value.ref h0] : List Value).toArray s = true := fun w hw => hts0 w (List.mem_cons_of_mem _ hw)
  have hown : s.vm.findClass RX7 = some m.cls := findClass_of_methodNamed B.named
  have hlocks := B.notSynchronized
  have hin : meth.name = "<init>" := (name_of_methodNamed B.named B.method).1
  subst hsz
  have hD := hD0.self (sz := s.heap.size)
  generalize hAe : va_A [(h0, .inr (6, [.int 0, .null, .null, .null]))] s.heap.size = A at hD ⊢
  have hA : ∀ q : Nat, s.heap.size ≤ q → A q := fun q h => by rw [← hAe]; exact Or.inr h
  have hS : va_S A s.heap s.heap [] := va_S.rf
  have hl := lv_entry ([.ref h0]) (n := 1) (Nat.le_of_ble_eq_true rfl)
  rw [lg_entry_eq]
  generalize (lg_sl ([.ref h0]) ++ List.replicate (1 - (lg_sl ([.ref h0])).length) Slot.unset).toArray = ls at hl ⊢
  have hl : lv_has ls 1 [(0, .ref h0)] := hl
  have hP : va_P D vwCl [(h0, .inr (6, [.int 0, .null, .null, .null]))] s.heap := hP
  refine lv_aload_n hx hb dd_X7_0 rfl (lv_at hl 0 rfl) ?_
  refine W.objInit hx hb hown (hts _ (mg 72 (by decide +kernel))) (hts _ (mg 44 (by decide +kernel))) (hts _ (mem_g (i := 45) (by decide +kernel) rfl)) rfl (by rw [hml]; exact hl.1) rfl dd_X7_1 (Nat.le_of_ble_eq_true rfl) (Nat.le_of_ble_eq_true rfl) ?_
  refine W.eq (g2 := F0 m 4 ls []) rfl ?_
  refine lv_aload_n hx hb dd_X7_4 rfl (lv_at hl 0 rfl) ?_
  refine lv_bipush (v := 6) hx hb dd_X7_5 (by decide) ?_
  refine nwI (D := D) (cI := cI) (cB := cB) hx hb (hts _ (mg 60 (by decide +kernel))) hK hP hD hS hA 6 (by decide) (by decide) (by decide) (Nat.le_of_ble_eq_true rfl) (Nat.le_of_ble_eq_true rfl) dd_X7_7 (fun q1 H hP hD hS => ?_)
  have hP : va_P D vwCl [(h0, .inr (6, [.int 0, .null, .null, .null])), (q1, .inl (cI, 6, .inl zr))] H := hP
  have hD : va_D A [(h0, .inr (6, [.int 0, .null, .null, .null])), (q1, .inl (cI, 6, .inl zr))] := hD
  refine va_putF (D := D) (ci := 6) (v := .ref q1) (ty := .array .int) (C := RX7) (T := TX7) (N := 4) hx hb hts iX7 tyX7 tyX7_ok nmX7 hown hK hP hD hS 0 rfl rfl 1 (by decide) (hts _ (mg 76 (by decide +kernel))) (fun _ h9 => h9) rfl hin rfl (by decide +kernel) rfl rfl (Nat.le_of_ble_eq_true rfl) dd_X7_9 (fun H locs hP hD hS => ?_)
  have hP : va_P D vwCl [(h0, .inr (6, [.int 0, .ref q1, .null, .null])), (q1, .inl (cI, 6, .inl zr))] H := hP
  have hD : va_D A [(h0, .inr (6, [.int 0, .ref q1, .null, .null])), (q1, .inl (cI, 6, .inl zr))] := hD
  refine lv_aload_n hx hb dd_X7_12 rfl (lv_at hl 0 rfl) ?_
  refine lv_bipush (v := 6) hx hb dd_X7_13 (by decide) ?_
  refine nwI (D := D) (cI := cI) (cB := cB) hx hb (hts _ (mg 60 (by decide +kernel))) hK hP hD hS hA 6 (by decide) (by decide) (by decide) (Nat.le_of_ble_eq_true rfl) (Nat.le_of_ble_eq_true rfl) dd_X7_15 (fun q2 H hP hD hS => ?_)
  have hP : va_P D vwCl [(h0, .inr (6, [.int 0, .ref q1, .null, .null])), (q1, .inl (cI, 6, .inl zr)), (q2, .inl (cI, 6, .inl zr))] H := hP
  have hD : va_D A [(h0, .inr (6, [.int 0, .ref q1, .null, .null])), (q1, .inl (cI, 6, .inl zr)), (q2, .inl (cI, 6, .inl zr))] := hD
  refine va_putF (D := D) (ci := 6) (v := .ref q2) (ty := .array .int) (C := RX7) (T := TX7) (N := 4) hx hb hts iX7 tyX7 tyX7_ok nmX7 hown hK hP hD hS 0 rfl rfl 2 (by decide) (hts _ (mg 77 (by decide +kernel))) (fun _ h9 => h9) rfl hin rfl (by decide +kernel) rfl rfl (Nat.le_of_ble_eq_true rfl) dd_X7_17 (fun H locs hP hD hS => ?_)
  have hP : va_P D vwCl [(h0, .inr (6, [.int 0, .ref q1, .ref q2, .null])), (q1, .inl (cI, 6, .inl zr)), (q2, .inl (cI, 6, .inl zr))] H := hP
  have hD : va_D A [(h0, .inr (6, [.int 0, .ref q1, .ref q2, .null])), (q1, .inl (cI, 6, .inl zr)), (q2, .inl (cI, 6, .inl zr))] := hD
  refine lv_aload_n hx hb dd_X7_20 rfl (lv_at hl 0 rfl) ?_
  refine lv_bipush (v := 6) hx hb dd_X7_21 (by decide) ?_
  refine nwI (D := D) (cI := cI) (cB := cB) hx hb (hts _ (mg 60 (by decide +kernel))) hK hP hD hS hA 6 (by decide) (by decide) (by decide) (Nat.le_of_ble_eq_true rfl) (Nat.le_of_ble_eq_true rfl) dd_X7_23 (fun q3 H hP hD hS => ?_)
  have hP : va_P D vwCl [(h0, .inr (6, [.int 0, .ref q1, .ref q2, .null])), (q1, .inl (cI, 6, .inl zr)), (q2, .inl (cI, 6, .inl zr)), (q3, .inl (cI, 6, .inl zr))] H := hP
  have hD : va_D A [(h0, .inr (6, [.int 0, .ref q1, .ref q2, .null])), (q1, .inl (cI, 6, .inl zr)), (q2, .inl (cI, 6, .inl zr)), (q3, .inl (cI, 6, .inl zr))] := hD
  refine va_putF (D := D) (ci := 6) (v := .ref q3) (ty := .array .int) (C := RX7) (T := TX7) (N := 4) hx hb hts iX7 tyX7 tyX7_ok nmX7 hown hK hP hD hS 0 rfl rfl 3 (by decide) (hts _ (mg 78 (by decide +kernel))) (fun _ h9 => h9) rfl hin rfl (by decide +kernel) rfl rfl (Nat.le_of_ble_eq_true rfl) dd_X7_25 (fun H locs hP hD hS => ?_)
  have hP : va_P D vwCl [(h0, .inr (6, [.int 0, .ref q1, .ref q2, .ref q3])), (q1, .inl (cI, 6, .inl zr)), (q2, .inl (cI, 6, .inl zr)), (q3, .inl (cI, 6, .inl zr))] H := hP
  have hD : va_D A [(h0, .inr (6, [.int 0, .ref q1, .ref q2, .ref q3])), (q1, .inl (cI, 6, .inl zr)), (q2, .inl (cI, 6, .inl zr)), (q3, .inl (cI, 6, .inl zr))] := hD
  have hfin : ([(h0, .inr (6, [.int 0, .ref q1, .ref q2, .ref q3])), (q1, .inl (cI, 6, .inl zr)), (q2, .inl (cI, 6, .inl zr)), (q3, .inl (cI, 6, .inl zr))] : va_W) = wlg (fun c => if c < 1 then h0 else if c < 2 then q1 else if c < 3 then q2 else q3) cI cB mu7 ly7 := by
    simp only [wlg_r]
    rfl
  rw [hfin] at hP hD
  refine W.widen (k := 3) (n := 18) (Nat.le_of_ble_eq_true rfl) (Nat.le_of_ble_eq_true rfl) ?_
  exact W.vret hx hb hr (fun t ht hW => ⟨⟨_, rfl, rfl, by rw [ht]; exact hP, hD⟩, hS.F ht⟩) hS.2.2 dd_X7_28
def y_X8_init : MethodName := ⟨"ActsPaid$Stage", "<init>", "()V"⟩
theorem dd_X8_0 : decode prog_10_method_1_code 0 = .ok (.aload_n 0, 1) := by decide +kernel
theorem dd_X8_1 : decode prog_10_method_1_code 1 = .ok (.invokespecial 3, 3) := by decide +kernel
theorem dd_X8_4 : decode prog_10_method_1_code 4 = .ok (.aload_n 0, 1) := by decide +kernel
theorem dd_X8_5 : decode prog_10_method_1_code 5 = .ok (.iconst 4, 1) := by decide +kernel
theorem dd_X8_6 : decode prog_10_method_1_code 6 = .ok (.putfield 9, 3) := by decide +kernel
theorem dd_X8_9 : decode prog_10_method_1_code 9 = .ok (.aload_n 0, 1) := by decide +kernel
theorem dd_X8_10 : decode prog_10_method_1_code 10 = .ok (.iconst 5, 1) := by decide +kernel
theorem dd_X8_11 : decode prog_10_method_1_code 11 = .ok (.putfield 15, 3) := by decide +kernel
theorem dd_X8_14 : decode prog_10_method_1_code 14 = .ok (.aload_n 0, 1) := by decide +kernel
theorem dd_X8_15 : decode prog_10_method_1_code 15 = .ok (.iconst 1, 1) := by decide +kernel
theorem dd_X8_16 : decode prog_10_method_1_code 16 = .ok (.putfield 18, 3) := by decide +kernel
theorem dd_X8_19 : decode prog_10_method_1_code 19 = .ok (.aload_n 0, 1) := by decide +kernel
theorem dd_X8_20 : decode prog_10_method_1_code 20 = .ok (.iconst 5, 1) := by decide +kernel
theorem dd_X8_21 : decode prog_10_method_1_code 21 = .ok (.putfield 21, 3) := by decide +kernel
theorem dd_X8_24 : decode prog_10_method_1_code 24 = .ok (.aload_n 0, 1) := by decide +kernel
theorem dd_X8_25 : decode prog_10_method_1_code 25 = .ok (.bipush 6, 2) := by decide +kernel
theorem dd_X8_27 : decode prog_10_method_1_code 27 = .ok (.newarray .int, 2) := by decide +kernel
theorem dd_X8_29 : decode prog_10_method_1_code 29 = .ok (.dup, 1) := by decide +kernel
theorem dd_X8_30 : decode prog_10_method_1_code 30 = .ok (.iconst 0, 1) := by decide +kernel
theorem dd_X8_31 : decode prog_10_method_1_code 31 = .ok (.iconst 0, 1) := by decide +kernel
theorem dd_X8_32 : decode prog_10_method_1_code 32 = .ok (.iastore, 1) := by decide +kernel
theorem dd_X8_33 : decode prog_10_method_1_code 33 = .ok (.dup, 1) := by decide +kernel
theorem dd_X8_34 : decode prog_10_method_1_code 34 = .ok (.iconst 1, 1) := by decide +kernel
theorem dd_X8_35 : decode prog_10_method_1_code 35 = .ok (.iconst 1, 1) := by decide +kernel
theorem dd_X8_36 : decode prog_10_method_1_code 36 = .ok (.iastore, 1) := by decide +kernel
theorem dd_X8_37 : decode prog_10_method_1_code 37 = .ok (.dup, 1) := by decide +kernel
theorem dd_X8_38 : decode prog_10_method_1_code 38 = .ok (.iconst 2, 1) := by decide +kernel
theorem dd_X8_39 : decode prog_10_method_1_code 39 = .ok (.iconst 2, 1) := by decide +kernel
theorem dd_X8_40 : decode prog_10_method_1_code 40 = .ok (.iastore, 1) := by decide +kernel
theorem dd_X8_41 : decode prog_10_method_1_code 41 = .ok (.dup, 1) := by decide +kernel
theorem dd_X8_42 : decode prog_10_method_1_code 42 = .ok (.iconst 3, 1) := by decide +kernel
theorem dd_X8_43 : decode prog_10_method_1_code 43 = .ok (.iconst 3, 1) := by decide +kernel
theorem dd_X8_44 : decode prog_10_method_1_code 44 = .ok (.iastore, 1) := by decide +kernel
theorem dd_X8_45 : decode prog_10_method_1_code 45 = .ok (.dup, 1) := by decide +kernel
theorem dd_X8_46 : decode prog_10_method_1_code 46 = .ok (.iconst 4, 1) := by decide +kernel
theorem dd_X8_47 : decode prog_10_method_1_code 47 = .ok (.iconst 4, 1) := by decide +kernel
theorem dd_X8_48 : decode prog_10_method_1_code 48 = .ok (.iastore, 1) := by decide +kernel
theorem dd_X8_49 : decode prog_10_method_1_code 49 = .ok (.dup, 1) := by decide +kernel
theorem dd_X8_50 : decode prog_10_method_1_code 50 = .ok (.iconst 5, 1) := by decide +kernel
theorem dd_X8_51 : decode prog_10_method_1_code 51 = .ok (.iconst 5, 1) := by decide +kernel
theorem dd_X8_52 : decode prog_10_method_1_code 52 = .ok (.iastore, 1) := by decide +kernel
theorem dd_X8_53 : decode prog_10_method_1_code 53 = .ok (.putfield 24, 3) := by decide +kernel
theorem dd_X8_56 : decode prog_10_method_1_code 56 = .ok (.aload_n 0, 1) := by decide +kernel
theorem dd_X8_57 : decode prog_10_method_1_code 57 = .ok (.bipush 48, 2) := by decide +kernel
theorem dd_X8_59 : decode prog_10_method_1_code 59 = .ok (.newarray .int, 2) := by decide +kernel
theorem dd_X8_61 : decode prog_10_method_1_code 61 = .ok (.putfield 28, 3) := by decide +kernel
theorem dd_X8_64 : decode prog_10_method_1_code 64 = .ok (.aload_n 0, 1) := by decide +kernel
theorem dd_X8_65 : decode prog_10_method_1_code 65 = .ok (.bipush 6, 2) := by decide +kernel
theorem dd_X8_67 : decode prog_10_method_1_code 67 = .ok (.newarray .int, 2) := by decide +kernel
theorem dd_X8_69 : decode prog_10_method_1_code 69 = .ok (.putfield 31, 3) := by decide +kernel
theorem dd_X8_72 : decode prog_10_method_1_code 72 = .ok (.aload_n 0, 1) := by decide +kernel
theorem dd_X8_73 : decode prog_10_method_1_code 73 = .ok (.bipush 6, 2) := by decide +kernel
theorem dd_X8_75 : decode prog_10_method_1_code 75 = .ok (.newarray .int, 2) := by decide +kernel
theorem dd_X8_77 : decode prog_10_method_1_code 77 = .ok (.putfield 34, 3) := by decide +kernel
theorem dd_X8_80 : decode prog_10_method_1_code 80 = .ok (.aload_n 0, 1) := by decide +kernel
theorem dd_X8_81 : decode prog_10_method_1_code 81 = .ok (.bipush 8, 2) := by decide +kernel
theorem dd_X8_83 : decode prog_10_method_1_code 83 = .ok (.newarray .int, 2) := by decide +kernel
theorem dd_X8_85 : decode prog_10_method_1_code 85 = .ok (.putfield 37, 3) := by decide +kernel
theorem dd_X8_88 : decode prog_10_method_1_code 88 = .ok (.aload_n 0, 1) := by decide +kernel
theorem dd_X8_89 : decode prog_10_method_1_code 89 = .ok (.new 40, 3) := by decide +kernel
theorem dd_X8_92 : decode prog_10_method_1_code 92 = .ok (.dup, 1) := by decide +kernel
theorem dd_X8_93 : decode prog_10_method_1_code 93 = .ok (.invokespecial 42, 3) := by decide +kernel
theorem dd_X8_96 : decode prog_10_method_1_code 96 = .ok (.putfield 43, 3) := by decide +kernel
theorem dd_X8_99 : decode prog_10_method_1_code 99 = .ok (.return_, 1) := by decide +kernel
set_option maxHeartbeats 4000000 in
set_option maxRecDepth 100000 in
theorem ic_X8 (l : Launch) : IC l y_X8_init prog_10_method_1_code { frames := 2, cells := 9, slots := 96, locals := 32 } 7 [.int 0, .int 0, .int 0, .int 0, .int 0, .int 0, .null, .null, .null, .null, .null, .null] ly8 mu8 9 96 := by
  intro D cI cB h0 sz
  refine Met.ofW (cc := prog_10_method_1_code) (maxL := 1) (ret := none) (by decide) rfl ?_
  intro p e s m args below meth c s₁ B hml hv
  obtain ⟨rfl, hsz, hP, hK, hD0⟩ := hv
  have hx := B.exec
  have hb := B.bytes
  have hr := B.returns
  have hts0 := atoms_spec (ws := Cond.code y_X8_init prog_10_method_1_code 1 none :: lw_g) B.pre
  have hts : ∀ w ∈ lw_g, w.before ([Value.ref h0] : List Value).toArray s = true := fun w hw => hts0 w (List.mem_cons_of_mem _ hw)
  have hown : s.vm.findClass RX8 = some m.cls := findClass_of_methodNamed B.named
  have hlocks := B.notSynchronized
  have hin : meth.name = "<init>" := (name_of_methodNamed B.named B.method).1
  subst hsz
  have hD := hD0.self (sz := s.heap.size)
  generalize hAe : va_A [(h0, .inr (7, [.int 0, .int 0, .int 0, .int 0, .int 0, .int 0, .null, .null, .null, .null, .null, .null]))] s.heap.size = A at hD ⊢
  have hA : ∀ q : Nat, s.heap.size ≤ q → A q := fun q h => by rw [← hAe]; exact Or.inr h
  have hS : va_S A s.heap s.heap [] := va_S.rf
  have hl := lv_entry ([.ref h0]) (n := 1) (Nat.le_of_ble_eq_true rfl)
  rw [lg_entry_eq]
  generalize (lg_sl ([.ref h0]) ++ List.replicate (1 - (lg_sl ([.ref h0])).length) Slot.unset).toArray = ls at hl ⊢
  have hl : lv_has ls 1 [(0, .ref h0)] := hl
  have hP : va_P D vwCl [(h0, .inr (7, [.int 0, .int 0, .int 0, .int 0, .int 0, .int 0, .null, .null, .null, .null, .null, .null]))] s.heap := hP
  refine lv_aload_n hx hb dd_X8_0 rfl (lv_at hl 0 rfl) ?_
  refine W.objInit hx hb hown (hts _ (mg 66 (by decide +kernel))) (hts _ (mg 44 (by decide +kernel))) (hts _ (mem_g (i := 45) (by decide +kernel) rfl)) rfl (by rw [hml]; exact hl.1) rfl dd_X8_1 (Nat.le_of_ble_eq_true rfl) (Nat.le_of_ble_eq_true rfl) ?_
  refine W.eq (g2 := F0 m 4 ls []) rfl ?_
  refine lv_aload_n hx hb dd_X8_4 rfl (lv_at hl 0 rfl) ?_
  refine lv_iconst (v := 4) hx hb dd_X8_5 (by decide) ?_
  refine va_put (D := D) (ci := 7) (v := .int 4) (ty := .int) (C := RX8) (T := TX8) (N := 12) hx hb hts iX8 tyX8 tyX8_ok nmX8 hown hK hP hD hS 0 rfl rfl 0 (by decide) (hts _ (mg 88 (by decide +kernel))) (fun _ h9 => h9) rfl (by decide +kernel) rfl rfl (Nat.le_of_ble_eq_true rfl) dd_X8_6 (fun H locs hP hD hS => ?_)
  have hP : va_P D vwCl [(h0, .inr (7, [.int 4, .int 0, .int 0, .int 0, .int 0, .int 0, .null, .null, .null, .null, .null, .null]))] H := hP
  have hD : va_D A [(h0, .inr (7, [.int 4, .int 0, .int 0, .int 0, .int 0, .int 0, .null, .null, .null, .null, .null, .null]))] := hD
  refine lv_aload_n hx hb dd_X8_9 rfl (lv_at hl 0 rfl) ?_
  refine lv_iconst (v := 5) hx hb dd_X8_10 (by decide) ?_
  refine va_put (D := D) (ci := 7) (v := .int 5) (ty := .int) (C := RX8) (T := TX8) (N := 12) hx hb hts iX8 tyX8 tyX8_ok nmX8 hown hK hP hD hS 0 rfl rfl 1 (by decide) (hts _ (mg 92 (by decide +kernel))) (fun _ h9 => h9) rfl (by decide +kernel) rfl rfl (Nat.le_of_ble_eq_true rfl) dd_X8_11 (fun H locs hP hD hS => ?_)
  have hP : va_P D vwCl [(h0, .inr (7, [.int 4, .int 5, .int 0, .int 0, .int 0, .int 0, .null, .null, .null, .null, .null, .null]))] H := hP
  have hD : va_D A [(h0, .inr (7, [.int 4, .int 5, .int 0, .int 0, .int 0, .int 0, .null, .null, .null, .null, .null, .null]))] := hD
  refine lv_aload_n hx hb dd_X8_14 rfl (lv_at hl 0 rfl) ?_
  refine lv_iconst (v := 1) hx hb dd_X8_15 (by decide) ?_
  refine va_put (D := D) (ci := 7) (v := .int 1) (ty := .int) (C := RX8) (T := TX8) (N := 12) hx hb hts iX8 tyX8 tyX8_ok nmX8 hown hK hP hD hS 0 rfl rfl 2 (by decide) (hts _ (mg 97 (by decide +kernel))) (fun _ h9 => h9) rfl (by decide +kernel) rfl rfl (Nat.le_of_ble_eq_true rfl) dd_X8_16 (fun H locs hP hD hS => ?_)
  have hP : va_P D vwCl [(h0, .inr (7, [.int 4, .int 5, .int 1, .int 0, .int 0, .int 0, .null, .null, .null, .null, .null, .null]))] H := hP
  have hD : va_D A [(h0, .inr (7, [.int 4, .int 5, .int 1, .int 0, .int 0, .int 0, .null, .null, .null, .null, .null, .null]))] := hD
  refine lv_aload_n hx hb dd_X8_19 rfl (lv_at hl 0 rfl) ?_
  refine lv_iconst (v := 5) hx hb dd_X8_20 (by decide) ?_
  refine va_put (D := D) (ci := 7) (v := .int 5) (ty := .int) (C := RX8) (T := TX8) (N := 12) hx hb hts iX8 tyX8 tyX8_ok nmX8 hown hK hP hD hS 0 rfl rfl 4 (by decide) (hts _ (mg 103 (by decide +kernel))) (fun _ h9 => h9) rfl (by decide +kernel) rfl rfl (Nat.le_of_ble_eq_true rfl) dd_X8_21 (fun H locs hP hD hS => ?_)
  have hP : va_P D vwCl [(h0, .inr (7, [.int 4, .int 5, .int 1, .int 0, .int 5, .int 0, .null, .null, .null, .null, .null, .null]))] H := hP
  have hD : va_D A [(h0, .inr (7, [.int 4, .int 5, .int 1, .int 0, .int 5, .int 0, .null, .null, .null, .null, .null, .null]))] := hD
  refine lv_aload_n hx hb dd_X8_24 rfl (lv_at hl 0 rfl) ?_
  refine lv_bipush (v := 6) hx hb dd_X8_25 (by decide) ?_
  refine nwI (D := D) (cI := cI) (cB := cB) hx hb (hts _ (mg 60 (by decide +kernel))) hK hP hD hS hA 6 (by decide) (by decide) (by decide) (Nat.le_of_ble_eq_true rfl) (Nat.le_of_ble_eq_true rfl) dd_X8_27 (fun q1 H hP hD hS => ?_)
  have hP : va_P D vwCl [(h0, .inr (7, [.int 4, .int 5, .int 1, .int 0, .int 5, .int 0, .null, .null, .null, .null, .null, .null])), (q1, .inl (cI, 6, .inl zr))] H := hP
  have hD : va_D A [(h0, .inr (7, [.int 4, .int 5, .int 1, .int 0, .int 5, .int 0, .null, .null, .null, .null, .null, .null])), (q1, .inl (cI, 6, .inl zr))] := hD
  refine lv_dup hx hb dd_X8_29 rfl ?_
  refine lv_iconst (v := 0) hx hb dd_X8_30 (by decide) ?_
  refine lv_iconst (v := 0) hx hb dd_X8_31 (by decide) ?_
  refine va_iast hx hb hK hP hD hS 1 0 rfl rfl (vp_in_iff.mpr (by decide)) dd_X8_32 (fun H locs hP hD hS => ?_)
  have hP : va_P D vwCl [(h0, .inr (7, [.int 4, .int 5, .int 1, .int 0, .int 5, .int 0, .null, .null, .null, .null, .null, .null])), (q1, .inl (cI, 6, .inl (upd zr (0 : Int32).toNatClampNeg 0)))] H := hP
  have hD : va_D A [(h0, .inr (7, [.int 4, .int 5, .int 1, .int 0, .int 5, .int 0, .null, .null, .null, .null, .null, .null])), (q1, .inl (cI, 6, .inl (upd zr (0 : Int32).toNatClampNeg 0)))] := hD
  refine lv_dup hx hb dd_X8_33 rfl ?_
  refine lv_iconst (v := 1) hx hb dd_X8_34 (by decide) ?_
  refine lv_iconst (v := 1) hx hb dd_X8_35 (by decide) ?_
  refine va_iast hx hb hK hP hD hS 1 0 rfl rfl (vp_in_iff.mpr (by decide)) dd_X8_36 (fun H locs hP hD hS => ?_)
  have hP : va_P D vwCl [(h0, .inr (7, [.int 4, .int 5, .int 1, .int 0, .int 5, .int 0, .null, .null, .null, .null, .null, .null])), (q1, .inl (cI, 6, .inl (upd (upd zr (0 : Int32).toNatClampNeg 0) (1 : Int32).toNatClampNeg 1)))] H := hP
  have hD : va_D A [(h0, .inr (7, [.int 4, .int 5, .int 1, .int 0, .int 5, .int 0, .null, .null, .null, .null, .null, .null])), (q1, .inl (cI, 6, .inl (upd (upd zr (0 : Int32).toNatClampNeg 0) (1 : Int32).toNatClampNeg 1)))] := hD
  refine lv_dup hx hb dd_X8_37 rfl ?_
  refine lv_iconst (v := 2) hx hb dd_X8_38 (by decide) ?_
  refine lv_iconst (v := 2) hx hb dd_X8_39 (by decide) ?_
  refine va_iast hx hb hK hP hD hS 1 0 rfl rfl (vp_in_iff.mpr (by decide)) dd_X8_40 (fun H locs hP hD hS => ?_)
  have hP : va_P D vwCl [(h0, .inr (7, [.int 4, .int 5, .int 1, .int 0, .int 5, .int 0, .null, .null, .null, .null, .null, .null])), (q1, .inl (cI, 6, .inl (upd (upd (upd zr (0 : Int32).toNatClampNeg 0) (1 : Int32).toNatClampNeg 1) (2 : Int32).toNatClampNeg 2)))] H := hP
  have hD : va_D A [(h0, .inr (7, [.int 4, .int 5, .int 1, .int 0, .int 5, .int 0, .null, .null, .null, .null, .null, .null])), (q1, .inl (cI, 6, .inl (upd (upd (upd zr (0 : Int32).toNatClampNeg 0) (1 : Int32).toNatClampNeg 1) (2 : Int32).toNatClampNeg 2)))] := hD
  refine lv_dup hx hb dd_X8_41 rfl ?_
  refine lv_iconst (v := 3) hx hb dd_X8_42 (by decide) ?_
  refine lv_iconst (v := 3) hx hb dd_X8_43 (by decide) ?_
  refine va_iast hx hb hK hP hD hS 1 0 rfl rfl (vp_in_iff.mpr (by decide)) dd_X8_44 (fun H locs hP hD hS => ?_)
  have hP : va_P D vwCl [(h0, .inr (7, [.int 4, .int 5, .int 1, .int 0, .int 5, .int 0, .null, .null, .null, .null, .null, .null])), (q1, .inl (cI, 6, .inl (upd (upd (upd (upd zr (0 : Int32).toNatClampNeg 0) (1 : Int32).toNatClampNeg 1) (2 : Int32).toNatClampNeg 2) (3 : Int32).toNatClampNeg 3)))] H := hP
  have hD : va_D A [(h0, .inr (7, [.int 4, .int 5, .int 1, .int 0, .int 5, .int 0, .null, .null, .null, .null, .null, .null])), (q1, .inl (cI, 6, .inl (upd (upd (upd (upd zr (0 : Int32).toNatClampNeg 0) (1 : Int32).toNatClampNeg 1) (2 : Int32).toNatClampNeg 2) (3 : Int32).toNatClampNeg 3)))] := hD
  refine lv_dup hx hb dd_X8_45 rfl ?_
  refine lv_iconst (v := 4) hx hb dd_X8_46 (by decide) ?_
  refine lv_iconst (v := 4) hx hb dd_X8_47 (by decide) ?_
  refine va_iast hx hb hK hP hD hS 1 0 rfl rfl (vp_in_iff.mpr (by decide)) dd_X8_48 (fun H locs hP hD hS => ?_)
  have hP : va_P D vwCl [(h0, .inr (7, [.int 4, .int 5, .int 1, .int 0, .int 5, .int 0, .null, .null, .null, .null, .null, .null])), (q1, .inl (cI, 6, .inl (upd (upd (upd (upd (upd zr (0 : Int32).toNatClampNeg 0) (1 : Int32).toNatClampNeg 1) (2 : Int32).toNatClampNeg 2) (3 : Int32).toNatClampNeg 3) (4 : Int32).toNatClampNeg 4)))] H := hP
  have hD : va_D A [(h0, .inr (7, [.int 4, .int 5, .int 1, .int 0, .int 5, .int 0, .null, .null, .null, .null, .null, .null])), (q1, .inl (cI, 6, .inl (upd (upd (upd (upd (upd zr (0 : Int32).toNatClampNeg 0) (1 : Int32).toNatClampNeg 1) (2 : Int32).toNatClampNeg 2) (3 : Int32).toNatClampNeg 3) (4 : Int32).toNatClampNeg 4)))] := hD
  refine lv_dup hx hb dd_X8_49 rfl ?_
  refine lv_iconst (v := 5) hx hb dd_X8_50 (by decide) ?_
  refine lv_iconst (v := 5) hx hb dd_X8_51 (by decide) ?_
  refine va_iast hx hb hK hP hD hS 1 0 rfl rfl (vp_in_iff.mpr (by decide)) dd_X8_52 (fun H locs hP hD hS => ?_)
  have hP : va_P D vwCl [(h0, .inr (7, [.int 4, .int 5, .int 1, .int 0, .int 5, .int 0, .null, .null, .null, .null, .null, .null])), (q1, .inl (cI, 6, .inl (upd (upd (upd (upd (upd (upd zr (0 : Int32).toNatClampNeg 0) (1 : Int32).toNatClampNeg 1) (2 : Int32).toNatClampNeg 2) (3 : Int32).toNatClampNeg 3) (4 : Int32).toNatClampNeg 4) (5 : Int32).toNatClampNeg 5)))] H := hP
  have hD : va_D A [(h0, .inr (7, [.int 4, .int 5, .int 1, .int 0, .int 5, .int 0, .null, .null, .null, .null, .null, .null])), (q1, .inl (cI, 6, .inl (upd (upd (upd (upd (upd (upd zr (0 : Int32).toNatClampNeg 0) (1 : Int32).toNatClampNeg 1) (2 : Int32).toNatClampNeg 2) (3 : Int32).toNatClampNeg 3) (4 : Int32).toNatClampNeg 4) (5 : Int32).toNatClampNeg 5)))] := hD
  refine va_putF (D := D) (ci := 7) (v := .ref q1) (ty := .array .int) (C := RX8) (T := TX8) (N := 12) hx hb hts iX8 tyX8 tyX8_ok nmX8 hown hK hP hD hS 0 rfl rfl 6 (by decide) (hts _ (mg 110 (by decide +kernel))) (fun _ h9 => h9) rfl hin rfl (by decide +kernel) rfl rfl (Nat.le_of_ble_eq_true rfl) dd_X8_53 (fun H locs hP hD hS => ?_)
  have hP : va_P D vwCl [(h0, .inr (7, [.int 4, .int 5, .int 1, .int 0, .int 5, .int 0, .ref q1, .null, .null, .null, .null, .null])), (q1, .inl (cI, 6, .inl (upd (upd (upd (upd (upd (upd zr (0 : Int32).toNatClampNeg 0) (1 : Int32).toNatClampNeg 1) (2 : Int32).toNatClampNeg 2) (3 : Int32).toNatClampNeg 3) (4 : Int32).toNatClampNeg 4) (5 : Int32).toNatClampNeg 5)))] H := hP
  have hD : va_D A [(h0, .inr (7, [.int 4, .int 5, .int 1, .int 0, .int 5, .int 0, .ref q1, .null, .null, .null, .null, .null])), (q1, .inl (cI, 6, .inl (upd (upd (upd (upd (upd (upd zr (0 : Int32).toNatClampNeg 0) (1 : Int32).toNatClampNeg 1) (2 : Int32).toNatClampNeg 2) (3 : Int32).toNatClampNeg 3) (4 : Int32).toNatClampNeg 4) (5 : Int32).toNatClampNeg 5)))] := hD
  refine lv_aload_n hx hb dd_X8_56 rfl (lv_at hl 0 rfl) ?_
  refine lv_bipush (v := 48) hx hb dd_X8_57 (by decide) ?_
  refine nwI (D := D) (cI := cI) (cB := cB) hx hb (hts _ (mg 60 (by decide +kernel))) hK hP hD hS hA 48 (by decide) (by decide) (by decide) (Nat.le_of_ble_eq_true rfl) (Nat.le_of_ble_eq_true rfl) dd_X8_59 (fun q2 H hP hD hS => ?_)
  have hP : va_P D vwCl [(h0, .inr (7, [.int 4, .int 5, .int 1, .int 0, .int 5, .int 0, .ref q1, .null, .null, .null, .null, .null])), (q1, .inl (cI, 6, .inl (upd (upd (upd (upd (upd (upd zr (0 : Int32).toNatClampNeg 0) (1 : Int32).toNatClampNeg 1) (2 : Int32).toNatClampNeg 2) (3 : Int32).toNatClampNeg 3) (4 : Int32).toNatClampNeg 4) (5 : Int32).toNatClampNeg 5))), (q2, .inl (cI, 48, .inl zr))] H := hP
  have hD : va_D A [(h0, .inr (7, [.int 4, .int 5, .int 1, .int 0, .int 5, .int 0, .ref q1, .null, .null, .null, .null, .null])), (q1, .inl (cI, 6, .inl (upd (upd (upd (upd (upd (upd zr (0 : Int32).toNatClampNeg 0) (1 : Int32).toNatClampNeg 1) (2 : Int32).toNatClampNeg 2) (3 : Int32).toNatClampNeg 3) (4 : Int32).toNatClampNeg 4) (5 : Int32).toNatClampNeg 5))), (q2, .inl (cI, 48, .inl zr))] := hD
  refine va_putF (D := D) (ci := 7) (v := .ref q2) (ty := .array .int) (C := RX8) (T := TX8) (N := 12) hx hb hts iX8 tyX8 tyX8_ok nmX8 hown hK hP hD hS 0 rfl rfl 7 (by decide) (hts _ (mg 113 (by decide +kernel))) (fun _ h9 => h9) rfl hin rfl (by decide +kernel) rfl rfl (Nat.le_of_ble_eq_true rfl) dd_X8_61 (fun H locs hP hD hS => ?_)
  have hP : va_P D vwCl [(h0, .inr (7, [.int 4, .int 5, .int 1, .int 0, .int 5, .int 0, .ref q1, .ref q2, .null, .null, .null, .null])), (q1, .inl (cI, 6, .inl (upd (upd (upd (upd (upd (upd zr (0 : Int32).toNatClampNeg 0) (1 : Int32).toNatClampNeg 1) (2 : Int32).toNatClampNeg 2) (3 : Int32).toNatClampNeg 3) (4 : Int32).toNatClampNeg 4) (5 : Int32).toNatClampNeg 5))), (q2, .inl (cI, 48, .inl zr))] H := hP
  have hD : va_D A [(h0, .inr (7, [.int 4, .int 5, .int 1, .int 0, .int 5, .int 0, .ref q1, .ref q2, .null, .null, .null, .null])), (q1, .inl (cI, 6, .inl (upd (upd (upd (upd (upd (upd zr (0 : Int32).toNatClampNeg 0) (1 : Int32).toNatClampNeg 1) (2 : Int32).toNatClampNeg 2) (3 : Int32).toNatClampNeg 3) (4 : Int32).toNatClampNeg 4) (5 : Int32).toNatClampNeg 5))), (q2, .inl (cI, 48, .inl zr))] := hD
  refine lv_aload_n hx hb dd_X8_64 rfl (lv_at hl 0 rfl) ?_
  refine lv_bipush (v := 6) hx hb dd_X8_65 (by decide) ?_
  refine nwI (D := D) (cI := cI) (cB := cB) hx hb (hts _ (mg 60 (by decide +kernel))) hK hP hD hS hA 6 (by decide) (by decide) (by decide) (Nat.le_of_ble_eq_true rfl) (Nat.le_of_ble_eq_true rfl) dd_X8_67 (fun q3 H hP hD hS => ?_)
  have hP : va_P D vwCl [(h0, .inr (7, [.int 4, .int 5, .int 1, .int 0, .int 5, .int 0, .ref q1, .ref q2, .null, .null, .null, .null])), (q1, .inl (cI, 6, .inl (upd (upd (upd (upd (upd (upd zr (0 : Int32).toNatClampNeg 0) (1 : Int32).toNatClampNeg 1) (2 : Int32).toNatClampNeg 2) (3 : Int32).toNatClampNeg 3) (4 : Int32).toNatClampNeg 4) (5 : Int32).toNatClampNeg 5))), (q2, .inl (cI, 48, .inl zr)), (q3, .inl (cI, 6, .inl zr))] H := hP
  have hD : va_D A [(h0, .inr (7, [.int 4, .int 5, .int 1, .int 0, .int 5, .int 0, .ref q1, .ref q2, .null, .null, .null, .null])), (q1, .inl (cI, 6, .inl (upd (upd (upd (upd (upd (upd zr (0 : Int32).toNatClampNeg 0) (1 : Int32).toNatClampNeg 1) (2 : Int32).toNatClampNeg 2) (3 : Int32).toNatClampNeg 3) (4 : Int32).toNatClampNeg 4) (5 : Int32).toNatClampNeg 5))), (q2, .inl (cI, 48, .inl zr)), (q3, .inl (cI, 6, .inl zr))] := hD
  refine va_putF (D := D) (ci := 7) (v := .ref q3) (ty := .array .int) (C := RX8) (T := TX8) (N := 12) hx hb hts iX8 tyX8 tyX8_ok nmX8 hown hK hP hD hS 0 rfl rfl 8 (by decide) (hts _ (mg 114 (by decide +kernel))) (fun _ h9 => h9) rfl hin rfl (by decide +kernel) rfl rfl (Nat.le_of_ble_eq_true rfl) dd_X8_69 (fun H locs hP hD hS => ?_)
  have hP : va_P D vwCl [(h0, .inr (7, [.int 4, .int 5, .int 1, .int 0, .int 5, .int 0, .ref q1, .ref q2, .ref q3, .null, .null, .null])), (q1, .inl (cI, 6, .inl (upd (upd (upd (upd (upd (upd zr (0 : Int32).toNatClampNeg 0) (1 : Int32).toNatClampNeg 1) (2 : Int32).toNatClampNeg 2) (3 : Int32).toNatClampNeg 3) (4 : Int32).toNatClampNeg 4) (5 : Int32).toNatClampNeg 5))), (q2, .inl (cI, 48, .inl zr)), (q3, .inl (cI, 6, .inl zr))] H := hP
  have hD : va_D A [(h0, .inr (7, [.int 4, .int 5, .int 1, .int 0, .int 5, .int 0, .ref q1, .ref q2, .ref q3, .null, .null, .null])), (q1, .inl (cI, 6, .inl (upd (upd (upd (upd (upd (upd zr (0 : Int32).toNatClampNeg 0) (1 : Int32).toNatClampNeg 1) (2 : Int32).toNatClampNeg 2) (3 : Int32).toNatClampNeg 3) (4 : Int32).toNatClampNeg 4) (5 : Int32).toNatClampNeg 5))), (q2, .inl (cI, 48, .inl zr)), (q3, .inl (cI, 6, .inl zr))] := hD
  refine lv_aload_n hx hb dd_X8_72 rfl (lv_at hl 0 rfl) ?_
  refine lv_bipush (v := 6) hx hb dd_X8_73 (by decide) ?_
  refine nwI (D := D) (cI := cI) (cB := cB) hx hb (hts _ (mg 60 (by decide +kernel))) hK hP hD hS hA 6 (by decide) (by decide) (by decide) (Nat.le_of_ble_eq_true rfl) (Nat.le_of_ble_eq_true rfl) dd_X8_75 (fun q4 H hP hD hS => ?_)
  have hP : va_P D vwCl [(h0, .inr (7, [.int 4, .int 5, .int 1, .int 0, .int 5, .int 0, .ref q1, .ref q2, .ref q3, .null, .null, .null])), (q1, .inl (cI, 6, .inl (upd (upd (upd (upd (upd (upd zr (0 : Int32).toNatClampNeg 0) (1 : Int32).toNatClampNeg 1) (2 : Int32).toNatClampNeg 2) (3 : Int32).toNatClampNeg 3) (4 : Int32).toNatClampNeg 4) (5 : Int32).toNatClampNeg 5))), (q2, .inl (cI, 48, .inl zr)), (q3, .inl (cI, 6, .inl zr)), (q4, .inl (cI, 6, .inl zr))] H := hP
  have hD : va_D A [(h0, .inr (7, [.int 4, .int 5, .int 1, .int 0, .int 5, .int 0, .ref q1, .ref q2, .ref q3, .null, .null, .null])), (q1, .inl (cI, 6, .inl (upd (upd (upd (upd (upd (upd zr (0 : Int32).toNatClampNeg 0) (1 : Int32).toNatClampNeg 1) (2 : Int32).toNatClampNeg 2) (3 : Int32).toNatClampNeg 3) (4 : Int32).toNatClampNeg 4) (5 : Int32).toNatClampNeg 5))), (q2, .inl (cI, 48, .inl zr)), (q3, .inl (cI, 6, .inl zr)), (q4, .inl (cI, 6, .inl zr))] := hD
  refine va_putF (D := D) (ci := 7) (v := .ref q4) (ty := .array .int) (C := RX8) (T := TX8) (N := 12) hx hb hts iX8 tyX8 tyX8_ok nmX8 hown hK hP hD hS 0 rfl rfl 9 (by decide) (hts _ (mg 117 (by decide +kernel))) (fun _ h9 => h9) rfl hin rfl (by decide +kernel) rfl rfl (Nat.le_of_ble_eq_true rfl) dd_X8_77 (fun H locs hP hD hS => ?_)
  have hP : va_P D vwCl [(h0, .inr (7, [.int 4, .int 5, .int 1, .int 0, .int 5, .int 0, .ref q1, .ref q2, .ref q3, .ref q4, .null, .null])), (q1, .inl (cI, 6, .inl (upd (upd (upd (upd (upd (upd zr (0 : Int32).toNatClampNeg 0) (1 : Int32).toNatClampNeg 1) (2 : Int32).toNatClampNeg 2) (3 : Int32).toNatClampNeg 3) (4 : Int32).toNatClampNeg 4) (5 : Int32).toNatClampNeg 5))), (q2, .inl (cI, 48, .inl zr)), (q3, .inl (cI, 6, .inl zr)), (q4, .inl (cI, 6, .inl zr))] H := hP
  have hD : va_D A [(h0, .inr (7, [.int 4, .int 5, .int 1, .int 0, .int 5, .int 0, .ref q1, .ref q2, .ref q3, .ref q4, .null, .null])), (q1, .inl (cI, 6, .inl (upd (upd (upd (upd (upd (upd zr (0 : Int32).toNatClampNeg 0) (1 : Int32).toNatClampNeg 1) (2 : Int32).toNatClampNeg 2) (3 : Int32).toNatClampNeg 3) (4 : Int32).toNatClampNeg 4) (5 : Int32).toNatClampNeg 5))), (q2, .inl (cI, 48, .inl zr)), (q3, .inl (cI, 6, .inl zr)), (q4, .inl (cI, 6, .inl zr))] := hD
  refine lv_aload_n hx hb dd_X8_80 rfl (lv_at hl 0 rfl) ?_
  refine lv_bipush (v := 8) hx hb dd_X8_81 (by decide) ?_
  refine nwI (D := D) (cI := cI) (cB := cB) hx hb (hts _ (mg 60 (by decide +kernel))) hK hP hD hS hA 8 (by decide) (by decide) (by decide) (Nat.le_of_ble_eq_true rfl) (Nat.le_of_ble_eq_true rfl) dd_X8_83 (fun q5 H hP hD hS => ?_)
  have hP : va_P D vwCl [(h0, .inr (7, [.int 4, .int 5, .int 1, .int 0, .int 5, .int 0, .ref q1, .ref q2, .ref q3, .ref q4, .null, .null])), (q1, .inl (cI, 6, .inl (upd (upd (upd (upd (upd (upd zr (0 : Int32).toNatClampNeg 0) (1 : Int32).toNatClampNeg 1) (2 : Int32).toNatClampNeg 2) (3 : Int32).toNatClampNeg 3) (4 : Int32).toNatClampNeg 4) (5 : Int32).toNatClampNeg 5))), (q2, .inl (cI, 48, .inl zr)), (q3, .inl (cI, 6, .inl zr)), (q4, .inl (cI, 6, .inl zr)), (q5, .inl (cI, 8, .inl zr))] H := hP
  have hD : va_D A [(h0, .inr (7, [.int 4, .int 5, .int 1, .int 0, .int 5, .int 0, .ref q1, .ref q2, .ref q3, .ref q4, .null, .null])), (q1, .inl (cI, 6, .inl (upd (upd (upd (upd (upd (upd zr (0 : Int32).toNatClampNeg 0) (1 : Int32).toNatClampNeg 1) (2 : Int32).toNatClampNeg 2) (3 : Int32).toNatClampNeg 3) (4 : Int32).toNatClampNeg 4) (5 : Int32).toNatClampNeg 5))), (q2, .inl (cI, 48, .inl zr)), (q3, .inl (cI, 6, .inl zr)), (q4, .inl (cI, 6, .inl zr)), (q5, .inl (cI, 8, .inl zr))] := hD
  refine va_putF (D := D) (ci := 7) (v := .ref q5) (ty := .array .int) (C := RX8) (T := TX8) (N := 12) hx hb hts iX8 tyX8 tyX8_ok nmX8 hown hK hP hD hS 0 rfl rfl 10 (by decide) (hts _ (mg 118 (by decide +kernel))) (fun _ h9 => h9) rfl hin rfl (by decide +kernel) rfl rfl (Nat.le_of_ble_eq_true rfl) dd_X8_85 (fun H locs hP hD hS => ?_)
  have hP : va_P D vwCl [(h0, .inr (7, [.int 4, .int 5, .int 1, .int 0, .int 5, .int 0, .ref q1, .ref q2, .ref q3, .ref q4, .ref q5, .null])), (q1, .inl (cI, 6, .inl (upd (upd (upd (upd (upd (upd zr (0 : Int32).toNatClampNeg 0) (1 : Int32).toNatClampNeg 1) (2 : Int32).toNatClampNeg 2) (3 : Int32).toNatClampNeg 3) (4 : Int32).toNatClampNeg 4) (5 : Int32).toNatClampNeg 5))), (q2, .inl (cI, 48, .inl zr)), (q3, .inl (cI, 6, .inl zr)), (q4, .inl (cI, 6, .inl zr)), (q5, .inl (cI, 8, .inl zr))] H := hP
  have hD : va_D A [(h0, .inr (7, [.int 4, .int 5, .int 1, .int 0, .int 5, .int 0, .ref q1, .ref q2, .ref q3, .ref q4, .ref q5, .null])), (q1, .inl (cI, 6, .inl (upd (upd (upd (upd (upd (upd zr (0 : Int32).toNatClampNeg 0) (1 : Int32).toNatClampNeg 1) (2 : Int32).toNatClampNeg 2) (3 : Int32).toNatClampNeg 3) (4 : Int32).toNatClampNeg 4) (5 : Int32).toNatClampNeg 5))), (q2, .inl (cI, 48, .inl zr)), (q3, .inl (cI, 6, .inl zr)), (q4, .inl (cI, 6, .inl zr)), (q5, .inl (cI, 8, .inl zr))] := hD
  refine lv_aload_n hx hb dd_X8_88 rfl (lv_at hl 0 rfl) ?_
  refine mkC (own := RX8) (C := RX7) (T := TX7) (N := 4) (ci := 6) (nL := 1) (D := D) (cI := cI) (cB := cB) (ic_X7 l) hx hb hml hown hts hK hP hD hS hA hl.1 rfl iX7 tyX7 tyX7_ok (fun j hj => by rcases (show j = 0 ∨ j = 1 ∨ j = 2 ∨ j = 3 by omega) with rfl | rfl | rfl | rfl <;> rfl) (mg 67 (by decide +kernel)) (mg 68 (by decide +kernel)) (mg 28 (by decide +kernel)) (mem_g (i := 71) (by decide +kernel) rfl) (mg 69 (by decide +kernel)) (mg 70 (by decide +kernel)) ⟨rfl, rfl⟩ (by decide +kernel) ⟨rfl, rfl, Nat.le_of_ble_eq_true rfl, Nat.le_of_ble_eq_true rfl⟩ ⟨Nat.le_of_ble_eq_true rfl, Nat.le_of_ble_eq_true rfl⟩ (Nat.le_of_ble_eq_true rfl) dd_X8_89 dd_X8_92 dd_X8_93 (fun q6 u6 H locs hu6 hP hD hS => ?_)
  have hP : va_P D vwCl ([(h0, .inr (7, [.int 4, .int 5, .int 1, .int 0, .int 5, .int 0, .ref q1, .ref q2, .ref q3, .ref q4, .ref q5, .null])), (q1, .inl (cI, 6, .inl (upd (upd (upd (upd (upd (upd zr (0 : Int32).toNatClampNeg 0) (1 : Int32).toNatClampNeg 1) (2 : Int32).toNatClampNeg 2) (3 : Int32).toNatClampNeg 3) (4 : Int32).toNatClampNeg 4) (5 : Int32).toNatClampNeg 5))), (q2, .inl (cI, 48, .inl zr)), (q3, .inl (cI, 6, .inl zr)), (q4, .inl (cI, 6, .inl zr)), (q5, .inl (cI, 8, .inl zr))] ++ wlg u6 cI cB mu7 ly7) H := hP
  have hD : va_D A ([(h0, .inr (7, [.int 4, .int 5, .int 1, .int 0, .int 5, .int 0, .ref q1, .ref q2, .ref q3, .ref q4, .ref q5, .null])), (q1, .inl (cI, 6, .inl (upd (upd (upd (upd (upd (upd zr (0 : Int32).toNatClampNeg 0) (1 : Int32).toNatClampNeg 1) (2 : Int32).toNatClampNeg 2) (3 : Int32).toNatClampNeg 3) (4 : Int32).toNatClampNeg 4) (5 : Int32).toNatClampNeg 5))), (q2, .inl (cI, 48, .inl zr)), (q3, .inl (cI, 6, .inl zr)), (q4, .inl (cI, 6, .inl zr)), (q5, .inl (cI, 8, .inl zr))] ++ wlg u6 cI cB mu7 ly7) := hD
  refine va_putF (D := D) (ci := 7) (v := .ref q6) (ty := .object "ActsPaid$Sights") (C := RX8) (T := TX8) (N := 12) hx hb hts iX8 tyX8 tyX8_ok nmX8 hown hK hP hD hS 0 rfl rfl 11 (by decide) (hts _ (mg 120 (by decide +kernel))) (fun _ h9 => h9) rfl hin rfl (by decide +kernel) rfl rfl (Nat.le_of_ble_eq_true rfl) dd_X8_96 (fun H locs hP hD hS => ?_)
  have hP : va_P D vwCl ([(h0, .inr (7, [.int 4, .int 5, .int 1, .int 0, .int 5, .int 0, .ref q1, .ref q2, .ref q3, .ref q4, .ref q5, .ref q6])), (q1, .inl (cI, 6, .inl (upd (upd (upd (upd (upd (upd zr (0 : Int32).toNatClampNeg 0) (1 : Int32).toNatClampNeg 1) (2 : Int32).toNatClampNeg 2) (3 : Int32).toNatClampNeg 3) (4 : Int32).toNatClampNeg 4) (5 : Int32).toNatClampNeg 5))), (q2, .inl (cI, 48, .inl zr)), (q3, .inl (cI, 6, .inl zr)), (q4, .inl (cI, 6, .inl zr)), (q5, .inl (cI, 8, .inl zr))] ++ wlg u6 cI cB mu7 ly7) H := hP
  have hD : va_D A ([(h0, .inr (7, [.int 4, .int 5, .int 1, .int 0, .int 5, .int 0, .ref q1, .ref q2, .ref q3, .ref q4, .ref q5, .ref q6])), (q1, .inl (cI, 6, .inl (upd (upd (upd (upd (upd (upd zr (0 : Int32).toNatClampNeg 0) (1 : Int32).toNatClampNeg 1) (2 : Int32).toNatClampNeg 2) (3 : Int32).toNatClampNeg 3) (4 : Int32).toNatClampNeg 4) (5 : Int32).toNatClampNeg 5))), (q2, .inl (cI, 48, .inl zr)), (q3, .inl (cI, 6, .inl zr)), (q4, .inl (cI, 6, .inl zr)), (q5, .inl (cI, 8, .inl zr))] ++ wlg u6 cI cB mu7 ly7) := hD
  subst hu6
  have hfin : (([(h0, .inr (7, [.int 4, .int 5, .int 1, .int 0, .int 5, .int 0, .ref q1, .ref q2, .ref q3, .ref q4, .ref q5, .ref (u6 0)])), (q1, .inl (cI, 6, .inl (upd (upd (upd (upd (upd (upd zr (0 : Int32).toNatClampNeg 0) (1 : Int32).toNatClampNeg 1) (2 : Int32).toNatClampNeg 2) (3 : Int32).toNatClampNeg 3) (4 : Int32).toNatClampNeg 4) (5 : Int32).toNatClampNeg 5))), (q2, .inl (cI, 48, .inl zr)), (q3, .inl (cI, 6, .inl zr)), (q4, .inl (cI, 6, .inl zr)), (q5, .inl (cI, 8, .inl zr))] ++ wlg u6 cI cB mu7 ly7) : va_W) = wlg (fun c => if c < 1 then h0 else if c < 2 then q1 else if c < 3 then q2 else if c < 4 then q3 else if c < 5 then q4 else if c < 6 then q5 else u6 (c - 6)) cI cB mu8 ly8 := by
    simp only [wlg_r]
    rfl
  rw [hfin] at hP hD
  refine W.widen (k := 9) (n := 96) (Nat.le_of_ble_eq_true rfl) (Nat.le_of_ble_eq_true rfl) ?_
  exact W.vret hx hb hr (fun t ht hW => ⟨⟨_, rfl, rfl, by rw [ht]; exact hP, hD⟩, hS.F ht⟩) hS.2.2 dd_X8_99
def y_X2_init : MethodName := ⟨"ActsPaid$Image", "<init>", "()V"⟩
theorem dd_X2_0 : decode prog_4_method_1_code 0 = .ok (.aload_n 0, 1) := by decide +kernel
theorem dd_X2_1 : decode prog_4_method_1_code 1 = .ok (.invokespecial 1, 3) := by decide +kernel
theorem dd_X2_4 : decode prog_4_method_1_code 4 = .ok (.aload_n 0, 1) := by decide +kernel
theorem dd_X2_5 : decode prog_4_method_1_code 5 = .ok (.new 7, 3) := by decide +kernel
theorem dd_X2_8 : decode prog_4_method_1_code 8 = .ok (.dup, 1) := by decide +kernel
theorem dd_X2_9 : decode prog_4_method_1_code 9 = .ok (.invokespecial 9, 3) := by decide +kernel
theorem dd_X2_12 : decode prog_4_method_1_code 12 = .ok (.putfield 10, 3) := by decide +kernel
theorem dd_X2_15 : decode prog_4_method_1_code 15 = .ok (.return_, 1) := by decide +kernel
set_option maxHeartbeats 4000000 in
set_option maxRecDepth 100000 in
theorem ic_X2 (l : Launch) : IC l y_X2_init prog_4_method_1_code { frames := 3, cells := 10, slots := 108, locals := 52 } 2 [.null, .int 0] ly2 mu2 10 108 := by
  intro D cI cB h0 sz
  refine Met.ofW (cc := prog_4_method_1_code) (maxL := 1) (ret := none) (by decide) rfl ?_
  intro p e s m args below meth c s₁ B hml hv
  obtain ⟨rfl, hsz, hP, hK, hD0⟩ := hv
  have hx := B.exec
  have hb := B.bytes
  have hr := B.returns
  have hts0 := atoms_spec (ws := Cond.code y_X2_init prog_4_method_1_code 1 none :: lw_g) B.pre
  have hts : ∀ w ∈ lw_g, w.before ([Value.ref h0] : List Value).toArray s = true := fun w hw => hts0 w (List.mem_cons_of_mem _ hw)
  have hown : s.vm.findClass RX2 = some m.cls := findClass_of_methodNamed B.named
  have hlocks := B.notSynchronized
  have hin : meth.name = "<init>" := (name_of_methodNamed B.named B.method).1
  subst hsz
  have hD := hD0.self (sz := s.heap.size)
  generalize hAe : va_A [(h0, .inr (2, [.null, .int 0]))] s.heap.size = A at hD ⊢
  have hA : ∀ q : Nat, s.heap.size ≤ q → A q := fun q h => by rw [← hAe]; exact Or.inr h
  have hS : va_S A s.heap s.heap [] := va_S.rf
  have hl := lv_entry ([.ref h0]) (n := 1) (Nat.le_of_ble_eq_true rfl)
  rw [lg_entry_eq]
  generalize (lg_sl ([.ref h0]) ++ List.replicate (1 - (lg_sl ([.ref h0])).length) Slot.unset).toArray = ls at hl ⊢
  have hl : lv_has ls 1 [(0, .ref h0)] := hl
  have hP : va_P D vwCl [(h0, .inr (2, [.null, .int 0]))] s.heap := hP
  refine lv_aload_n hx hb dd_X2_0 rfl (lv_at hl 0 rfl) ?_
  refine W.objInit hx hb hown (hts _ (mg 153 (by decide +kernel))) (hts _ (mg 44 (by decide +kernel))) (hts _ (mem_g (i := 45) (by decide +kernel) rfl)) rfl (by rw [hml]; exact hl.1) rfl dd_X2_1 (Nat.le_of_ble_eq_true rfl) (Nat.le_of_ble_eq_true rfl) ?_
  refine W.eq (g2 := F0 m 4 ls []) rfl ?_
  refine lv_aload_n hx hb dd_X2_4 rfl (lv_at hl 0 rfl) ?_
  refine mkC (own := RX2) (C := RX8) (T := TX8) (N := 12) (ci := 7) (nL := 1) (D := D) (cI := cI) (cB := cB) (ic_X8 l) hx hb hml hown hts hK hP hD hS hA hl.1 rfl iX8 tyX8 tyX8_ok (fun j hj => by rcases (show j = 0 ∨ j = 1 ∨ j = 2 ∨ j = 3 ∨ j = 4 ∨ j = 5 ∨ j = 6 ∨ j = 7 ∨ j = 8 ∨ j = 9 ∨ j = 10 ∨ j = 11 by omega) with rfl | rfl | rfl | rfl | rfl | rfl | rfl | rfl | rfl | rfl | rfl | rfl <;> rfl) (mg 154 (by decide +kernel)) (mg 62 (by decide +kernel)) (mg 27 (by decide +kernel)) (mem_g (i := 65) (by decide +kernel) rfl) (mg 155 (by decide +kernel)) (mg 64 (by decide +kernel)) ⟨rfl, rfl⟩ (by decide +kernel) ⟨rfl, rfl, Nat.le_of_ble_eq_true rfl, Nat.le_of_ble_eq_true rfl⟩ ⟨Nat.le_of_ble_eq_true rfl, Nat.le_of_ble_eq_true rfl⟩ (Nat.le_of_ble_eq_true rfl) dd_X2_5 dd_X2_8 dd_X2_9 (fun q1 u1 H locs hu1 hP hD hS => ?_)
  have hP : va_P D vwCl ([(h0, .inr (2, [.null, .int 0]))] ++ wlg u1 cI cB mu8 ly8) H := hP
  have hD : va_D A ([(h0, .inr (2, [.null, .int 0]))] ++ wlg u1 cI cB mu8 ly8) := hD
  refine va_putF (D := D) (ci := 2) (v := .ref q1) (ty := .object "ActsPaid$Stage") (C := RX2) (T := TX2) (N := 2) hx hb hts iX2 tyX2 tyX2_ok nmX2 hown hK hP hD hS 0 rfl rfl 0 (by decide) (hts _ (mg 156 (by decide +kernel))) (fun _ h9 => h9) rfl hin rfl (by decide +kernel) rfl rfl (Nat.le_of_ble_eq_true rfl) dd_X2_12 (fun H locs hP hD hS => ?_)
  have hP : va_P D vwCl ([(h0, .inr (2, [.ref q1, .int 0]))] ++ wlg u1 cI cB mu8 ly8) H := hP
  have hD : va_D A ([(h0, .inr (2, [.ref q1, .int 0]))] ++ wlg u1 cI cB mu8 ly8) := hD
  subst hu1
  have hfin : (([(h0, .inr (2, [.ref (u1 0), .int 0]))] ++ wlg u1 cI cB mu8 ly8) : va_W) = wlg (fun c => if c < 1 then h0 else u1 (c - 1)) cI cB mu2 ly2 := by
    simp only [wlg_r]
    rfl
  rw [hfin] at hP hD
  refine W.widen (k := 10) (n := 108) (Nat.le_of_ble_eq_true rfl) (Nat.le_of_ble_eq_true rfl) ?_
  exact W.vret hx hb hr (fun t ht hW => ⟨⟨_, rfl, rfl, by rw [ht]; exact hP, hD⟩, hS.F ht⟩) hS.2.2 dd_X2_15
def y_X4_init : MethodName := ⟨"ActsPaid$Programme", "<init>", "()V"⟩
theorem dd_X4_0 : decode prog_6_method_1_code 0 = .ok (.aload_n 0, 1) := by decide +kernel
theorem dd_X4_1 : decode prog_6_method_1_code 1 = .ok (.invokespecial 3, 3) := by decide +kernel
theorem dd_X4_4 : decode prog_6_method_1_code 4 = .ok (.aload_n 0, 1) := by decide +kernel
theorem dd_X4_5 : decode prog_6_method_1_code 5 = .ok (.bipush 6, 2) := by decide +kernel
theorem dd_X4_7 : decode prog_6_method_1_code 7 = .ok (.newarray .int, 2) := by decide +kernel
theorem dd_X4_9 : decode prog_6_method_1_code 9 = .ok (.putfield 9, 3) := by decide +kernel
theorem dd_X4_12 : decode prog_6_method_1_code 12 = .ok (.return_, 1) := by decide +kernel
set_option maxHeartbeats 4000000 in
set_option maxRecDepth 100000 in
theorem ic_X4 (l : Launch) : IC l y_X4_init prog_6_method_1_code { frames := 1, cells := 1, slots := 6, locals := 12 } 4 [.null] ly4 mu4 1 6 := by
  intro D cI cB h0 sz
  refine Met.ofW (cc := prog_6_method_1_code) (maxL := 1) (ret := none) (by decide) rfl ?_
  intro p e s m args below meth c s₁ B hml hv
  obtain ⟨rfl, hsz, hP, hK, hD0⟩ := hv
  have hx := B.exec
  have hb := B.bytes
  have hr := B.returns
  have hts0 := atoms_spec (ws := Cond.code y_X4_init prog_6_method_1_code 1 none :: lw_g) B.pre
  have hts : ∀ w ∈ lw_g, w.before ([Value.ref h0] : List Value).toArray s = true := fun w hw => hts0 w (List.mem_cons_of_mem _ hw)
  have hown : s.vm.findClass RX4 = some m.cls := findClass_of_methodNamed B.named
  have hlocks := B.notSynchronized
  have hin : meth.name = "<init>" := (name_of_methodNamed B.named B.method).1
  subst hsz
  have hD := hD0.self (sz := s.heap.size)
  generalize hAe : va_A [(h0, .inr (4, [.null]))] s.heap.size = A at hD ⊢
  have hA : ∀ q : Nat, s.heap.size ≤ q → A q := fun q h => by rw [← hAe]; exact Or.inr h
  have hS : va_S A s.heap s.heap [] := va_S.rf
  have hl := lv_entry ([.ref h0]) (n := 1) (Nat.le_of_ble_eq_true rfl)
  rw [lg_entry_eq]
  generalize (lg_sl ([.ref h0]) ++ List.replicate (1 - (lg_sl ([.ref h0])).length) Slot.unset).toArray = ls at hl ⊢
  have hl : lv_has ls 1 [(0, .ref h0)] := hl
  have hP : va_P D vwCl [(h0, .inr (4, [.null]))] s.heap := hP
  refine lv_aload_n hx hb dd_X4_0 rfl (lv_at hl 0 rfl) ?_
  refine W.objInit hx hb hown (hts _ (mg 169 (by decide +kernel))) (hts _ (mg 44 (by decide +kernel))) (hts _ (mem_g (i := 45) (by decide +kernel) rfl)) rfl (by rw [hml]; exact hl.1) rfl dd_X4_1 (Nat.le_of_ble_eq_true rfl) (Nat.le_of_ble_eq_true rfl) ?_
  refine W.eq (g2 := F0 m 4 ls []) rfl ?_
  refine lv_aload_n hx hb dd_X4_4 rfl (lv_at hl 0 rfl) ?_
  refine lv_bipush (v := 6) hx hb dd_X4_5 (by decide) ?_
  refine nwI (D := D) (cI := cI) (cB := cB) hx hb (hts _ (mg 60 (by decide +kernel))) hK hP hD hS hA 6 (by decide) (by decide) (by decide) (Nat.le_of_ble_eq_true rfl) (Nat.le_of_ble_eq_true rfl) dd_X4_7 (fun q1 H hP hD hS => ?_)
  have hP : va_P D vwCl [(h0, .inr (4, [.null])), (q1, .inl (cI, 6, .inl zr))] H := hP
  have hD : va_D A [(h0, .inr (4, [.null])), (q1, .inl (cI, 6, .inl zr))] := hD
  refine va_putF (D := D) (ci := 4) (v := .ref q1) (ty := .array .int) (C := RX4) (T := TX4) (N := 1) hx hb hts iX4 tyX4 tyX4_ok nmX4 hown hK hP hD hS 0 rfl rfl 0 (by decide) (hts _ (mg 170 (by decide +kernel))) (fun _ h9 => h9) rfl hin rfl (by decide +kernel) rfl rfl (Nat.le_of_ble_eq_true rfl) dd_X4_9 (fun H locs hP hD hS => ?_)
  have hP : va_P D vwCl [(h0, .inr (4, [.ref q1])), (q1, .inl (cI, 6, .inl zr))] H := hP
  have hD : va_D A [(h0, .inr (4, [.ref q1])), (q1, .inl (cI, 6, .inl zr))] := hD
  have hfin : ([(h0, .inr (4, [.ref q1])), (q1, .inl (cI, 6, .inl zr))] : va_W) = wlg (fun c => if c < 1 then h0 else q1) cI cB mu4 ly4 := by
    simp only [wlg_r]
    rfl
  rw [hfin] at hP hD
  refine W.widen (k := 1) (n := 6) (Nat.le_of_ble_eq_true rfl) (Nat.le_of_ble_eq_true rfl) ?_
  exact W.vret hx hb hr (fun t ht hW => ⟨⟨_, rfl, rfl, by rw [ht]; exact hP, hD⟩, hS.F ht⟩) hS.2.2 dd_X4_12
def y_X6_init : MethodName := ⟨"ActsPaid$Seats", "<init>", "()V"⟩
theorem dd_X6_0 : decode prog_8_method_1_code 0 = .ok (.aload_n 0, 1) := by decide +kernel
theorem dd_X6_1 : decode prog_8_method_1_code 1 = .ok (.invokespecial 3, 3) := by decide +kernel
theorem dd_X6_4 : decode prog_8_method_1_code 4 = .ok (.aload_n 0, 1) := by decide +kernel
theorem dd_X6_5 : decode prog_8_method_1_code 5 = .ok (.sipush 2048, 3) := by decide +kernel
theorem dd_X6_8 : decode prog_8_method_1_code 8 = .ok (.newarray .int, 2) := by decide +kernel
theorem dd_X6_10 : decode prog_8_method_1_code 10 = .ok (.putfield 11, 3) := by decide +kernel
theorem dd_X6_13 : decode prog_8_method_1_code 13 = .ok (.aload_n 0, 1) := by decide +kernel
theorem dd_X6_14 : decode prog_8_method_1_code 14 = .ok (.bipush 8, 2) := by decide +kernel
theorem dd_X6_16 : decode prog_8_method_1_code 16 = .ok (.newarray .int, 2) := by decide +kernel
theorem dd_X6_18 : decode prog_8_method_1_code 18 = .ok (.putfield 15, 3) := by decide +kernel
theorem dd_X6_21 : decode prog_8_method_1_code 21 = .ok (.return_, 1) := by decide +kernel
set_option maxHeartbeats 4000000 in
set_option maxRecDepth 100000 in
theorem ic_X6 (l : Launch) : IC l y_X6_init prog_8_method_1_code { frames := 1, cells := 2, slots := 2056, locals := 12 } 5 [.null, .null] ly6 mu6 2 2056 := by
  intro D cI cB h0 sz
  refine Met.ofW (cc := prog_8_method_1_code) (maxL := 1) (ret := none) (by decide) rfl ?_
  intro p e s m args below meth c s₁ B hml hv
  obtain ⟨rfl, hsz, hP, hK, hD0⟩ := hv
  have hx := B.exec
  have hb := B.bytes
  have hr := B.returns
  have hts0 := atoms_spec (ws := Cond.code y_X6_init prog_8_method_1_code 1 none :: lw_g) B.pre
  have hts : ∀ w ∈ lw_g, w.before ([Value.ref h0] : List Value).toArray s = true := fun w hw => hts0 w (List.mem_cons_of_mem _ hw)
  have hown : s.vm.findClass RX6 = some m.cls := findClass_of_methodNamed B.named
  have hlocks := B.notSynchronized
  have hin : meth.name = "<init>" := (name_of_methodNamed B.named B.method).1
  subst hsz
  have hD := hD0.self (sz := s.heap.size)
  generalize hAe : va_A [(h0, .inr (5, [.null, .null]))] s.heap.size = A at hD ⊢
  have hA : ∀ q : Nat, s.heap.size ≤ q → A q := fun q h => by rw [← hAe]; exact Or.inr h
  have hS : va_S A s.heap s.heap [] := va_S.rf
  have hl := lv_entry ([.ref h0]) (n := 1) (Nat.le_of_ble_eq_true rfl)
  rw [lg_entry_eq]
  generalize (lg_sl ([.ref h0]) ++ List.replicate (1 - (lg_sl ([.ref h0])).length) Slot.unset).toArray = ls at hl ⊢
  have hl : lv_has ls 1 [(0, .ref h0)] := hl
  have hP : va_P D vwCl [(h0, .inr (5, [.null, .null]))] s.heap := hP
  refine lv_aload_n hx hb dd_X6_0 rfl (lv_at hl 0 rfl) ?_
  refine W.objInit hx hb hown (hts _ (mg 179 (by decide +kernel))) (hts _ (mg 44 (by decide +kernel))) (hts _ (mem_g (i := 45) (by decide +kernel) rfl)) rfl (by rw [hml]; exact hl.1) rfl dd_X6_1 (Nat.le_of_ble_eq_true rfl) (Nat.le_of_ble_eq_true rfl) ?_
  refine W.eq (g2 := F0 m 4 ls []) rfl ?_
  refine lv_aload_n hx hb dd_X6_4 rfl (lv_at hl 0 rfl) ?_
  refine lv_sipush (v := 2048) hx hb dd_X6_5 (by decide) ?_
  refine nwI (D := D) (cI := cI) (cB := cB) hx hb (hts _ (mg 60 (by decide +kernel))) hK hP hD hS hA 2048 (by decide) (by decide) (by decide) (Nat.le_of_ble_eq_true rfl) (Nat.le_of_ble_eq_true rfl) dd_X6_8 (fun q1 H hP hD hS => ?_)
  have hP : va_P D vwCl [(h0, .inr (5, [.null, .null])), (q1, .inl (cI, 2048, .inl zr))] H := hP
  have hD : va_D A [(h0, .inr (5, [.null, .null])), (q1, .inl (cI, 2048, .inl zr))] := hD
  refine va_putF (D := D) (ci := 5) (v := .ref q1) (ty := .array .int) (C := RX6) (T := TX6) (N := 2) hx hb hts iX6 tyX6 tyX6_ok nmX6 hown hK hP hD hS 0 rfl rfl 0 (by decide) (hts _ (mg 180 (by decide +kernel))) (fun _ h9 => h9) rfl hin rfl (by decide +kernel) rfl rfl (Nat.le_of_ble_eq_true rfl) dd_X6_10 (fun H locs hP hD hS => ?_)
  have hP : va_P D vwCl [(h0, .inr (5, [.ref q1, .null])), (q1, .inl (cI, 2048, .inl zr))] H := hP
  have hD : va_D A [(h0, .inr (5, [.ref q1, .null])), (q1, .inl (cI, 2048, .inl zr))] := hD
  refine lv_aload_n hx hb dd_X6_13 rfl (lv_at hl 0 rfl) ?_
  refine lv_bipush (v := 8) hx hb dd_X6_14 (by decide) ?_
  refine nwI (D := D) (cI := cI) (cB := cB) hx hb (hts _ (mg 60 (by decide +kernel))) hK hP hD hS hA 8 (by decide) (by decide) (by decide) (Nat.le_of_ble_eq_true rfl) (Nat.le_of_ble_eq_true rfl) dd_X6_16 (fun q2 H hP hD hS => ?_)
  have hP : va_P D vwCl [(h0, .inr (5, [.ref q1, .null])), (q1, .inl (cI, 2048, .inl zr)), (q2, .inl (cI, 8, .inl zr))] H := hP
  have hD : va_D A [(h0, .inr (5, [.ref q1, .null])), (q1, .inl (cI, 2048, .inl zr)), (q2, .inl (cI, 8, .inl zr))] := hD
  refine va_putF (D := D) (ci := 5) (v := .ref q2) (ty := .array .int) (C := RX6) (T := TX6) (N := 2) hx hb hts iX6 tyX6 tyX6_ok nmX6 hown hK hP hD hS 0 rfl rfl 1 (by decide) (hts _ (mg 181 (by decide +kernel))) (fun _ h9 => h9) rfl hin rfl (by decide +kernel) rfl rfl (Nat.le_of_ble_eq_true rfl) dd_X6_18 (fun H locs hP hD hS => ?_)
  have hP : va_P D vwCl [(h0, .inr (5, [.ref q1, .ref q2])), (q1, .inl (cI, 2048, .inl zr)), (q2, .inl (cI, 8, .inl zr))] H := hP
  have hD : va_D A [(h0, .inr (5, [.ref q1, .ref q2])), (q1, .inl (cI, 2048, .inl zr)), (q2, .inl (cI, 8, .inl zr))] := hD
  have hfin : ([(h0, .inr (5, [.ref q1, .ref q2])), (q1, .inl (cI, 2048, .inl zr)), (q2, .inl (cI, 8, .inl zr))] : va_W) = wlg (fun c => if c < 1 then h0 else if c < 2 then q1 else q2) cI cB mu6 ly6 := by
    simp only [wlg_r]
    rfl
  rw [hfin] at hP hD
  refine W.widen (k := 2) (n := 2056) (Nat.le_of_ble_eq_true rfl) (Nat.le_of_ble_eq_true rfl) ?_
  exact W.vret hx hb hr (fun t ht hW => ⟨⟨_, rfl, rfl, by rw [ht]; exact hP, hD⟩, hS.F ht⟩) hS.2.2 dd_X6_21
def y_X1_init : MethodName := ⟨"ActsPaid$Houses", "<init>", "()V"⟩
theorem dd_X1_0 : decode prog_3_method_1_code 0 = .ok (.aload_n 0, 1) := by decide +kernel
theorem dd_X1_1 : decode prog_3_method_1_code 1 = .ok (.invokespecial 3, 3) := by decide +kernel
theorem dd_X1_4 : decode prog_3_method_1_code 4 = .ok (.aload_n 0, 1) := by decide +kernel
theorem dd_X1_5 : decode prog_3_method_1_code 5 = .ok (.bipush 100, 2) := by decide +kernel
theorem dd_X1_7 : decode prog_3_method_1_code 7 = .ok (.newarray .int, 2) := by decide +kernel
theorem dd_X1_9 : decode prog_3_method_1_code 9 = .ok (.putfield 11, 3) := by decide +kernel
theorem dd_X1_12 : decode prog_3_method_1_code 12 = .ok (.aload_n 0, 1) := by decide +kernel
theorem dd_X1_13 : decode prog_3_method_1_code 13 = .ok (.bipush 100, 2) := by decide +kernel
theorem dd_X1_15 : decode prog_3_method_1_code 15 = .ok (.newarray .int, 2) := by decide +kernel
theorem dd_X1_17 : decode prog_3_method_1_code 17 = .ok (.putfield 15, 3) := by decide +kernel
theorem dd_X1_20 : decode prog_3_method_1_code 20 = .ok (.return_, 1) := by decide +kernel
set_option maxHeartbeats 4000000 in
set_option maxRecDepth 100000 in
theorem ic_X1 (l : Launch) : IC l y_X1_init prog_3_method_1_code { frames := 1, cells := 2, slots := 200, locals := 12 } 1 [.int 0, .int 0, .int 0, .int 0, .null, .null] ly1 mu1 2 200 := by
  intro D cI cB h0 sz
  refine Met.ofW (cc := prog_3_method_1_code) (maxL := 1) (ret := none) (by decide) rfl ?_
  intro p e s m args below meth c s₁ B hml hv
  obtain ⟨rfl, hsz, hP, hK, hD0⟩ := hv
  have hx := B.exec
  have hb := B.bytes
  have hr := B.returns
  have hts0 := atoms_spec (ws := Cond.code y_X1_init prog_3_method_1_code 1 none :: lw_g) B.pre
  have hts : ∀ w ∈ lw_g, w.before ([Value.ref h0] : List Value).toArray s = true := fun w hw => hts0 w (List.mem_cons_of_mem _ hw)
  have hown : s.vm.findClass RX1 = some m.cls := findClass_of_methodNamed B.named
  have hlocks := B.notSynchronized
  have hin : meth.name = "<init>" := (name_of_methodNamed B.named B.method).1
  subst hsz
  have hD := hD0.self (sz := s.heap.size)
  generalize hAe : va_A [(h0, .inr (1, [.int 0, .int 0, .int 0, .int 0, .null, .null]))] s.heap.size = A at hD ⊢
  have hA : ∀ q : Nat, s.heap.size ≤ q → A q := fun q h => by rw [← hAe]; exact Or.inr h
  have hS : va_S A s.heap s.heap [] := va_S.rf
  have hl := lv_entry ([.ref h0]) (n := 1) (Nat.le_of_ble_eq_true rfl)
  rw [lg_entry_eq]
  generalize (lg_sl ([.ref h0]) ++ List.replicate (1 - (lg_sl ([.ref h0])).length) Slot.unset).toArray = ls at hl ⊢
  have hl : lv_has ls 1 [(0, .ref h0)] := hl
  have hP : va_P D vwCl [(h0, .inr (1, [.int 0, .int 0, .int 0, .int 0, .null, .null]))] s.heap := hP
  refine lv_aload_n hx hb dd_X1_0 rfl (lv_at hl 0 rfl) ?_
  refine W.objInit hx hb hown (hts _ (mg 192 (by decide +kernel))) (hts _ (mg 44 (by decide +kernel))) (hts _ (mem_g (i := 45) (by decide +kernel) rfl)) rfl (by rw [hml]; exact hl.1) rfl dd_X1_1 (Nat.le_of_ble_eq_true rfl) (Nat.le_of_ble_eq_true rfl) ?_
  refine W.eq (g2 := F0 m 4 ls []) rfl ?_
  refine lv_aload_n hx hb dd_X1_4 rfl (lv_at hl 0 rfl) ?_
  refine lv_bipush (v := 100) hx hb dd_X1_5 (by decide) ?_
  refine nwI (D := D) (cI := cI) (cB := cB) hx hb (hts _ (mg 60 (by decide +kernel))) hK hP hD hS hA 100 (by decide) (by decide) (by decide) (Nat.le_of_ble_eq_true rfl) (Nat.le_of_ble_eq_true rfl) dd_X1_7 (fun q1 H hP hD hS => ?_)
  have hP : va_P D vwCl [(h0, .inr (1, [.int 0, .int 0, .int 0, .int 0, .null, .null])), (q1, .inl (cI, 100, .inl zr))] H := hP
  have hD : va_D A [(h0, .inr (1, [.int 0, .int 0, .int 0, .int 0, .null, .null])), (q1, .inl (cI, 100, .inl zr))] := hD
  refine va_putF (D := D) (ci := 1) (v := .ref q1) (ty := .array .int) (C := RX1) (T := TX1) (N := 6) hx hb hts iX1 tyX1 tyX1_ok nmX1 hown hK hP hD hS 0 rfl rfl 4 (by decide) (hts _ (mg 201 (by decide +kernel))) (fun _ h9 => h9) rfl hin rfl (by decide +kernel) rfl rfl (Nat.le_of_ble_eq_true rfl) dd_X1_9 (fun H locs hP hD hS => ?_)
  have hP : va_P D vwCl [(h0, .inr (1, [.int 0, .int 0, .int 0, .int 0, .ref q1, .null])), (q1, .inl (cI, 100, .inl zr))] H := hP
  have hD : va_D A [(h0, .inr (1, [.int 0, .int 0, .int 0, .int 0, .ref q1, .null])), (q1, .inl (cI, 100, .inl zr))] := hD
  refine lv_aload_n hx hb dd_X1_12 rfl (lv_at hl 0 rfl) ?_
  refine lv_bipush (v := 100) hx hb dd_X1_13 (by decide) ?_
  refine nwI (D := D) (cI := cI) (cB := cB) hx hb (hts _ (mg 60 (by decide +kernel))) hK hP hD hS hA 100 (by decide) (by decide) (by decide) (Nat.le_of_ble_eq_true rfl) (Nat.le_of_ble_eq_true rfl) dd_X1_15 (fun q2 H hP hD hS => ?_)
  have hP : va_P D vwCl [(h0, .inr (1, [.int 0, .int 0, .int 0, .int 0, .ref q1, .null])), (q1, .inl (cI, 100, .inl zr)), (q2, .inl (cI, 100, .inl zr))] H := hP
  have hD : va_D A [(h0, .inr (1, [.int 0, .int 0, .int 0, .int 0, .ref q1, .null])), (q1, .inl (cI, 100, .inl zr)), (q2, .inl (cI, 100, .inl zr))] := hD
  refine va_putF (D := D) (ci := 1) (v := .ref q2) (ty := .array .int) (C := RX1) (T := TX1) (N := 6) hx hb hts iX1 tyX1 tyX1_ok nmX1 hown hK hP hD hS 0 rfl rfl 5 (by decide) (hts _ (mg 202 (by decide +kernel))) (fun _ h9 => h9) rfl hin rfl (by decide +kernel) rfl rfl (Nat.le_of_ble_eq_true rfl) dd_X1_17 (fun H locs hP hD hS => ?_)
  have hP : va_P D vwCl [(h0, .inr (1, [.int 0, .int 0, .int 0, .int 0, .ref q1, .ref q2])), (q1, .inl (cI, 100, .inl zr)), (q2, .inl (cI, 100, .inl zr))] H := hP
  have hD : va_D A [(h0, .inr (1, [.int 0, .int 0, .int 0, .int 0, .ref q1, .ref q2])), (q1, .inl (cI, 100, .inl zr)), (q2, .inl (cI, 100, .inl zr))] := hD
  have hfin : ([(h0, .inr (1, [.int 0, .int 0, .int 0, .int 0, .ref q1, .ref q2])), (q1, .inl (cI, 100, .inl zr)), (q2, .inl (cI, 100, .inl zr))] : va_W) = wlg (fun c => if c < 1 then h0 else if c < 2 then q1 else q2) cI cB mu1 ly1 := by
    simp only [wlg_r]
    rfl
  rw [hfin] at hP hD
  refine W.widen (k := 2) (n := 200) (Nat.le_of_ble_eq_true rfl) (Nat.le_of_ble_eq_true rfl) ?_
  exact W.vret hx hb hr (fun t ht hW => ⟨⟨_, rfl, rfl, by rw [ht]; exact hP, hD⟩, hS.F ht⟩) hS.2.2 dd_X1_20
def y_X0_init : MethodName := ⟨"ActsPaid$Chances", "<init>", "()V"⟩
theorem dd_X0_0 : decode prog_2_method_1_code 0 = .ok (.aload_n 0, 1) := by decide +kernel
theorem dd_X0_1 : decode prog_2_method_1_code 1 = .ok (.invokespecial 3, 3) := by decide +kernel
theorem dd_X0_4 : decode prog_2_method_1_code 4 = .ok (.aload_n 0, 1) := by decide +kernel
theorem dd_X0_5 : decode prog_2_method_1_code 5 = .ok (.bipush 8, 2) := by decide +kernel
theorem dd_X0_7 : decode prog_2_method_1_code 7 = .ok (.newarray .int, 2) := by decide +kernel
theorem dd_X0_9 : decode prog_2_method_1_code 9 = .ok (.putfield 9, 3) := by decide +kernel
theorem dd_X0_12 : decode prog_2_method_1_code 12 = .ok (.return_, 1) := by decide +kernel
set_option maxHeartbeats 4000000 in
set_option maxRecDepth 100000 in
theorem ic_X0 (l : Launch) : IC l y_X0_init prog_2_method_1_code { frames := 1, cells := 1, slots := 8, locals := 12 } 0 [.null] ly0 mu0 1 8 := by
  intro D cI cB h0 sz
  refine Met.ofW (cc := prog_2_method_1_code) (maxL := 1) (ret := none) (by decide) rfl ?_
  intro p e s m args below meth c s₁ B hml hv
  obtain ⟨rfl, hsz, hP, hK, hD0⟩ := hv
  have hx := B.exec
  have hb := B.bytes
  have hr := B.returns
  have hts0 := atoms_spec (ws := Cond.code y_X0_init prog_2_method_1_code 1 none :: lw_g) B.pre
  have hts : ∀ w ∈ lw_g, w.before ([Value.ref h0] : List Value).toArray s = true := fun w hw => hts0 w (List.mem_cons_of_mem _ hw)
  have hown : s.vm.findClass RX0 = some m.cls := findClass_of_methodNamed B.named
  have hlocks := B.notSynchronized
  have hin : meth.name = "<init>" := (name_of_methodNamed B.named B.method).1
  subst hsz
  have hD := hD0.self (sz := s.heap.size)
  generalize hAe : va_A [(h0, .inr (0, [.null]))] s.heap.size = A at hD ⊢
  have hA : ∀ q : Nat, s.heap.size ≤ q → A q := fun q h => by rw [← hAe]; exact Or.inr h
  have hS : va_S A s.heap s.heap [] := va_S.rf
  have hl := lv_entry ([.ref h0]) (n := 1) (Nat.le_of_ble_eq_true rfl)
  rw [lg_entry_eq]
  generalize (lg_sl ([.ref h0]) ++ List.replicate (1 - (lg_sl ([.ref h0])).length) Slot.unset).toArray = ls at hl ⊢
  have hl : lv_has ls 1 [(0, .ref h0)] := hl
  have hP : va_P D vwCl [(h0, .inr (0, [.null]))] s.heap := hP
  refine lv_aload_n hx hb dd_X0_0 rfl (lv_at hl 0 rfl) ?_
  refine W.objInit hx hb hown (hts _ (mg 221 (by decide +kernel))) (hts _ (mg 44 (by decide +kernel))) (hts _ (mem_g (i := 45) (by decide +kernel) rfl)) rfl (by rw [hml]; exact hl.1) rfl dd_X0_1 (Nat.le_of_ble_eq_true rfl) (Nat.le_of_ble_eq_true rfl) ?_
  refine W.eq (g2 := F0 m 4 ls []) rfl ?_
  refine lv_aload_n hx hb dd_X0_4 rfl (lv_at hl 0 rfl) ?_
  refine lv_bipush (v := 8) hx hb dd_X0_5 (by decide) ?_
  refine nwI (D := D) (cI := cI) (cB := cB) hx hb (hts _ (mg 60 (by decide +kernel))) hK hP hD hS hA 8 (by decide) (by decide) (by decide) (Nat.le_of_ble_eq_true rfl) (Nat.le_of_ble_eq_true rfl) dd_X0_7 (fun q1 H hP hD hS => ?_)
  have hP : va_P D vwCl [(h0, .inr (0, [.null])), (q1, .inl (cI, 8, .inl zr))] H := hP
  have hD : va_D A [(h0, .inr (0, [.null])), (q1, .inl (cI, 8, .inl zr))] := hD
  refine va_putF (D := D) (ci := 0) (v := .ref q1) (ty := .array .int) (C := RX0) (T := TX0) (N := 1) hx hb hts iX0 tyX0 tyX0_ok nmX0 hown hK hP hD hS 0 rfl rfl 0 (by decide) (hts _ (mg 222 (by decide +kernel))) (fun _ h9 => h9) rfl hin rfl (by decide +kernel) rfl rfl (Nat.le_of_ble_eq_true rfl) dd_X0_9 (fun H locs hP hD hS => ?_)
  have hP : va_P D vwCl [(h0, .inr (0, [.ref q1])), (q1, .inl (cI, 8, .inl zr))] H := hP
  have hD : va_D A [(h0, .inr (0, [.ref q1])), (q1, .inl (cI, 8, .inl zr))] := hD
  have hfin : ([(h0, .inr (0, [.ref q1])), (q1, .inl (cI, 8, .inl zr))] : va_W) = wlg (fun c => if c < 1 then h0 else q1) cI cB mu0 ly0 := by
    simp only [wlg_r]
    rfl
  rw [hfin] at hP hD
  refine W.widen (k := 1) (n := 8) (Nat.le_of_ble_eq_true rfl) (Nat.le_of_ble_eq_true rfl) ?_
  exact W.vret hx hb hr (fun t ht hW => ⟨⟨_, rfl, rfl, by rw [ht]; exact hP, hD⟩, hS.F ht⟩) hS.2.2 dd_X0_12
def y_X9_init : MethodName := ⟨"ActsPaid", "<init>", "()V"⟩
theorem dd_X9_0 : decode prog_1_method_1_code 0 = .ok (.aload_n 0, 1) := by decide +kernel
theorem dd_X9_1 : decode prog_1_method_1_code 1 = .ok (.invokespecial 1, 3) := by decide +kernel
theorem dd_X9_4 : decode prog_1_method_1_code 4 = .ok (.aload_n 0, 1) := by decide +kernel
theorem dd_X9_5 : decode prog_1_method_1_code 5 = .ok (.new 7, 3) := by decide +kernel
theorem dd_X9_8 : decode prog_1_method_1_code 8 = .ok (.dup, 1) := by decide +kernel
theorem dd_X9_9 : decode prog_1_method_1_code 9 = .ok (.invokespecial 9, 3) := by decide +kernel
theorem dd_X9_12 : decode prog_1_method_1_code 12 = .ok (.putfield 10, 3) := by decide +kernel
theorem dd_X9_15 : decode prog_1_method_1_code 15 = .ok (.aload_n 0, 1) := by decide +kernel
theorem dd_X9_16 : decode prog_1_method_1_code 16 = .ok (.new 16, 3) := by decide +kernel
theorem dd_X9_19 : decode prog_1_method_1_code 19 = .ok (.dup, 1) := by decide +kernel
theorem dd_X9_20 : decode prog_1_method_1_code 20 = .ok (.invokespecial 18, 3) := by decide +kernel
theorem dd_X9_23 : decode prog_1_method_1_code 23 = .ok (.putfield 19, 3) := by decide +kernel
theorem dd_X9_26 : decode prog_1_method_1_code 26 = .ok (.aload_n 0, 1) := by decide +kernel
theorem dd_X9_27 : decode prog_1_method_1_code 27 = .ok (.new 16, 3) := by decide +kernel
theorem dd_X9_30 : decode prog_1_method_1_code 30 = .ok (.dup, 1) := by decide +kernel
theorem dd_X9_31 : decode prog_1_method_1_code 31 = .ok (.invokespecial 18, 3) := by decide +kernel
theorem dd_X9_34 : decode prog_1_method_1_code 34 = .ok (.putfield 23, 3) := by decide +kernel
theorem dd_X9_37 : decode prog_1_method_1_code 37 = .ok (.aload_n 0, 1) := by decide +kernel
theorem dd_X9_38 : decode prog_1_method_1_code 38 = .ok (.new 26, 3) := by decide +kernel
theorem dd_X9_41 : decode prog_1_method_1_code 41 = .ok (.dup, 1) := by decide +kernel
theorem dd_X9_42 : decode prog_1_method_1_code 42 = .ok (.invokespecial 28, 3) := by decide +kernel
theorem dd_X9_45 : decode prog_1_method_1_code 45 = .ok (.putfield 29, 3) := by decide +kernel
theorem dd_X9_48 : decode prog_1_method_1_code 48 = .ok (.aload_n 0, 1) := by decide +kernel
theorem dd_X9_49 : decode prog_1_method_1_code 49 = .ok (.new 26, 3) := by decide +kernel
theorem dd_X9_52 : decode prog_1_method_1_code 52 = .ok (.dup, 1) := by decide +kernel
theorem dd_X9_53 : decode prog_1_method_1_code 53 = .ok (.invokespecial 28, 3) := by decide +kernel
theorem dd_X9_56 : decode prog_1_method_1_code 56 = .ok (.putfield 33, 3) := by decide +kernel
theorem dd_X9_59 : decode prog_1_method_1_code 59 = .ok (.aload_n 0, 1) := by decide +kernel
theorem dd_X9_60 : decode prog_1_method_1_code 60 = .ok (.new 36, 3) := by decide +kernel
theorem dd_X9_63 : decode prog_1_method_1_code 63 = .ok (.dup, 1) := by decide +kernel
theorem dd_X9_64 : decode prog_1_method_1_code 64 = .ok (.invokespecial 38, 3) := by decide +kernel
theorem dd_X9_67 : decode prog_1_method_1_code 67 = .ok (.putfield 39, 3) := by decide +kernel
theorem dd_X9_70 : decode prog_1_method_1_code 70 = .ok (.aload_n 0, 1) := by decide +kernel
theorem dd_X9_71 : decode prog_1_method_1_code 71 = .ok (.new 43, 3) := by decide +kernel
theorem dd_X9_74 : decode prog_1_method_1_code 74 = .ok (.dup, 1) := by decide +kernel
theorem dd_X9_75 : decode prog_1_method_1_code 75 = .ok (.invokespecial 45, 3) := by decide +kernel
theorem dd_X9_78 : decode prog_1_method_1_code 78 = .ok (.putfield 46, 3) := by decide +kernel
theorem dd_X9_81 : decode prog_1_method_1_code 81 = .ok (.aload_n 0, 1) := by decide +kernel
theorem dd_X9_82 : decode prog_1_method_1_code 82 = .ok (.new 50, 3) := by decide +kernel
theorem dd_X9_85 : decode prog_1_method_1_code 85 = .ok (.dup, 1) := by decide +kernel
theorem dd_X9_86 : decode prog_1_method_1_code 86 = .ok (.invokespecial 52, 3) := by decide +kernel
theorem dd_X9_89 : decode prog_1_method_1_code 89 = .ok (.putfield 53, 3) := by decide +kernel
theorem dd_X9_92 : decode prog_1_method_1_code 92 = .ok (.aload_n 0, 1) := by decide +kernel
theorem dd_X9_93 : decode prog_1_method_1_code 93 = .ok (.new 57, 3) := by decide +kernel
theorem dd_X9_96 : decode prog_1_method_1_code 96 = .ok (.dup, 1) := by decide +kernel
theorem dd_X9_97 : decode prog_1_method_1_code 97 = .ok (.invokespecial 59, 3) := by decide +kernel
theorem dd_X9_100 : decode prog_1_method_1_code 100 = .ok (.putfield 60, 3) := by decide +kernel
theorem dd_X9_103 : decode prog_1_method_1_code 103 = .ok (.return_, 1) := by decide +kernel
set_option maxHeartbeats 4000000 in
set_option maxRecDepth 100000 in
theorem ic_X9 (l : Launch) : IC l y_X9_init prog_1_method_1_code { frames := 4, cells := 54, slots := 2766, locals := 72 } 8 [.null, .null, .null, .null, .null, .null, .null, .null, .null] ly9 mu9 54 2766 := by
  intro D cI cB h0 sz
  refine Met.ofW (cc := prog_1_method_1_code) (maxL := 1) (ret := none) (by decide) rfl ?_
  intro p e s m args below meth c s₁ B hml hv
  obtain ⟨rfl, hsz, hP, hK, hD0⟩ := hv
  have hx := B.exec
  have hb := B.bytes
  have hr := B.returns
  have hts0 := atoms_spec (ws := Cond.code y_X9_init prog_1_method_1_code 1 none :: lw_g) B.pre
  have hts : ∀ w ∈ lw_g, w.before ([Value.ref h0] : List Value).toArray s = true := fun w hw => hts0 w (List.mem_cons_of_mem _ hw)
  have hown : s.vm.findClass RX9 = some m.cls := findClass_of_methodNamed B.named
  have hlocks := B.notSynchronized
  have hin : meth.name = "<init>" := (name_of_methodNamed B.named B.method).1
  subst hsz
  have hD := hD0.self (sz := s.heap.size)
  generalize hAe : va_A [(h0, .inr (8, [.null, .null, .null, .null, .null, .null, .null, .null, .null]))] s.heap.size = A at hD ⊢
  have hA : ∀ q : Nat, s.heap.size ≤ q → A q := fun q h => by rw [← hAe]; exact Or.inr h
  have hS : va_S A s.heap s.heap [] := va_S.rf
  have hl := lv_entry ([.ref h0]) (n := 1) (Nat.le_of_ble_eq_true rfl)
  rw [lg_entry_eq]
  generalize (lg_sl ([.ref h0]) ++ List.replicate (1 - (lg_sl ([.ref h0])).length) Slot.unset).toArray = ls at hl ⊢
  have hl : lv_has ls 1 [(0, .ref h0)] := hl
  have hP : va_P D vwCl [(h0, .inr (8, [.null, .null, .null, .null, .null, .null, .null, .null, .null]))] s.heap := hP
  refine lv_aload_n hx hb dd_X9_0 rfl (lv_at hl 0 rfl) ?_
  refine W.objInit hx hb hown (hts _ (mg 43 (by decide +kernel))) (hts _ (mg 44 (by decide +kernel))) (hts _ (mem_g (i := 45) (by decide +kernel) rfl)) rfl (by rw [hml]; exact hl.1) rfl dd_X9_1 (Nat.le_of_ble_eq_true rfl) (Nat.le_of_ble_eq_true rfl) ?_
  refine W.eq (g2 := F0 m 4 ls []) rfl ?_
  refine lv_aload_n hx hb dd_X9_4 rfl (lv_at hl 0 rfl) ?_
  refine mkC (own := RX9) (C := RX3) (T := TX3) (N := 2) (ci := 3) (nL := 1) (D := D) (cI := cI) (cB := cB) (ic_X3 l) hx hb hml hown hts hK hP hD hS hA hl.1 rfl iX3 tyX3 tyX3_ok (fun j hj => by rcases (show j = 0 ∨ j = 1 by omega) with rfl | rfl <;> rfl) (mg 46 (by decide +kernel)) (mg 47 (by decide +kernel)) (mg 26 (by decide +kernel)) (mem_g (i := 50) (by decide +kernel) rfl) (mg 48 (by decide +kernel)) (mg 49 (by decide +kernel)) ⟨rfl, rfl⟩ (by decide +kernel) ⟨rfl, rfl, Nat.le_of_ble_eq_true rfl, Nat.le_of_ble_eq_true rfl⟩ ⟨Nat.le_of_ble_eq_true rfl, Nat.le_of_ble_eq_true rfl⟩ (Nat.le_of_ble_eq_true rfl) dd_X9_5 dd_X9_8 dd_X9_9 (fun q1 u1 H locs hu1 hP hD hS => ?_)
  have hP : va_P D vwCl ([(h0, .inr (8, [.null, .null, .null, .null, .null, .null, .null, .null, .null]))] ++ wlg u1 cI cB mu3 ly3) H := hP
  have hD : va_D A ([(h0, .inr (8, [.null, .null, .null, .null, .null, .null, .null, .null, .null]))] ++ wlg u1 cI cB mu3 ly3) := hD
  refine va_putF (D := D) (ci := 8) (v := .ref q1) (ty := .object "ActsPaid$Pad") (C := RX9) (T := TX9) (N := 9) hx hb hts iX9 tyX9 tyX9_ok nmX9 hown hK hP hD hS 0 rfl rfl 0 (by decide) (hts _ (mg 226 (by decide +kernel))) (fun _ h9 => h9) rfl hin rfl (by decide +kernel) rfl rfl (Nat.le_of_ble_eq_true rfl) dd_X9_12 (fun H locs hP hD hS => ?_)
  have hP : va_P D vwCl ([(h0, .inr (8, [.ref q1, .null, .null, .null, .null, .null, .null, .null, .null]))] ++ wlg u1 cI cB mu3 ly3) H := hP
  have hD : va_D A ([(h0, .inr (8, [.ref q1, .null, .null, .null, .null, .null, .null, .null, .null]))] ++ wlg u1 cI cB mu3 ly3) := hD
  refine lv_aload_n hx hb dd_X9_15 rfl (lv_at hl 0 rfl) ?_
  refine mkC (own := RX9) (C := RX8) (T := TX8) (N := 12) (ci := 7) (nL := 1) (D := D) (cI := cI) (cB := cB) (ic_X8 l) hx hb hml hown hts hK hP hD hS hA hl.1 rfl iX8 tyX8 tyX8_ok (fun j hj => by rcases (show j = 0 ∨ j = 1 ∨ j = 2 ∨ j = 3 ∨ j = 4 ∨ j = 5 ∨ j = 6 ∨ j = 7 ∨ j = 8 ∨ j = 9 ∨ j = 10 ∨ j = 11 by omega) with rfl | rfl | rfl | rfl | rfl | rfl | rfl | rfl | rfl | rfl | rfl | rfl <;> rfl) (mg 61 (by decide +kernel)) (mg 62 (by decide +kernel)) (mg 27 (by decide +kernel)) (mem_g (i := 65) (by decide +kernel) rfl) (mg 63 (by decide +kernel)) (mg 64 (by decide +kernel)) ⟨rfl, rfl⟩ (by decide +kernel) ⟨rfl, rfl, Nat.le_of_ble_eq_true rfl, Nat.le_of_ble_eq_true rfl⟩ ⟨Nat.le_of_ble_eq_true rfl, Nat.le_of_ble_eq_true rfl⟩ (Nat.le_of_ble_eq_true rfl) dd_X9_16 dd_X9_19 dd_X9_20 (fun q2 u2 H locs hu2 hP hD hS => ?_)
  have hP : va_P D vwCl (([(h0, .inr (8, [.ref q1, .null, .null, .null, .null, .null, .null, .null, .null]))] ++ wlg u1 cI cB mu3 ly3) ++ wlg u2 cI cB mu8 ly8) H := hP
  have hD : va_D A (([(h0, .inr (8, [.ref q1, .null, .null, .null, .null, .null, .null, .null, .null]))] ++ wlg u1 cI cB mu3 ly3) ++ wlg u2 cI cB mu8 ly8) := hD
  refine va_putF (D := D) (ci := 8) (v := .ref q2) (ty := .object "ActsPaid$Stage") (C := RX9) (T := TX9) (N := 9) hx hb hts iX9 tyX9 tyX9_ok nmX9 hown hK hP hD hS 0 rfl rfl 1 (by decide) (hts _ (mg 227 (by decide +kernel))) (fun _ h9 => h9) rfl hin rfl (by decide +kernel) rfl rfl (Nat.le_of_ble_eq_true rfl) dd_X9_23 (fun H locs hP hD hS => ?_)
  have hP : va_P D vwCl (([(h0, .inr (8, [.ref q1, .ref q2, .null, .null, .null, .null, .null, .null, .null]))] ++ wlg u1 cI cB mu3 ly3) ++ wlg u2 cI cB mu8 ly8) H := hP
  have hD : va_D A (([(h0, .inr (8, [.ref q1, .ref q2, .null, .null, .null, .null, .null, .null, .null]))] ++ wlg u1 cI cB mu3 ly3) ++ wlg u2 cI cB mu8 ly8) := hD
  refine lv_aload_n hx hb dd_X9_26 rfl (lv_at hl 0 rfl) ?_
  refine mkC (own := RX9) (C := RX8) (T := TX8) (N := 12) (ci := 7) (nL := 1) (D := D) (cI := cI) (cB := cB) (ic_X8 l) hx hb hml hown hts hK hP hD hS hA hl.1 rfl iX8 tyX8 tyX8_ok (fun j hj => by rcases (show j = 0 ∨ j = 1 ∨ j = 2 ∨ j = 3 ∨ j = 4 ∨ j = 5 ∨ j = 6 ∨ j = 7 ∨ j = 8 ∨ j = 9 ∨ j = 10 ∨ j = 11 by omega) with rfl | rfl | rfl | rfl | rfl | rfl | rfl | rfl | rfl | rfl | rfl | rfl <;> rfl) (mg 61 (by decide +kernel)) (mg 62 (by decide +kernel)) (mg 27 (by decide +kernel)) (mem_g (i := 65) (by decide +kernel) rfl) (mg 63 (by decide +kernel)) (mg 64 (by decide +kernel)) ⟨rfl, rfl⟩ (by decide +kernel) ⟨rfl, rfl, Nat.le_of_ble_eq_true rfl, Nat.le_of_ble_eq_true rfl⟩ ⟨Nat.le_of_ble_eq_true rfl, Nat.le_of_ble_eq_true rfl⟩ (Nat.le_of_ble_eq_true rfl) dd_X9_27 dd_X9_30 dd_X9_31 (fun q3 u3 H locs hu3 hP hD hS => ?_)
  have hP : va_P D vwCl ((([(h0, .inr (8, [.ref q1, .ref q2, .null, .null, .null, .null, .null, .null, .null]))] ++ wlg u1 cI cB mu3 ly3) ++ wlg u2 cI cB mu8 ly8) ++ wlg u3 cI cB mu8 ly8) H := hP
  have hD : va_D A ((([(h0, .inr (8, [.ref q1, .ref q2, .null, .null, .null, .null, .null, .null, .null]))] ++ wlg u1 cI cB mu3 ly3) ++ wlg u2 cI cB mu8 ly8) ++ wlg u3 cI cB mu8 ly8) := hD
  refine va_putF (D := D) (ci := 8) (v := .ref q3) (ty := .object "ActsPaid$Stage") (C := RX9) (T := TX9) (N := 9) hx hb hts iX9 tyX9 tyX9_ok nmX9 hown hK hP hD hS 0 rfl rfl 2 (by decide) (hts _ (mg 228 (by decide +kernel))) (fun _ h9 => h9) rfl hin rfl (by decide +kernel) rfl rfl (Nat.le_of_ble_eq_true rfl) dd_X9_34 (fun H locs hP hD hS => ?_)
  have hP : va_P D vwCl ((([(h0, .inr (8, [.ref q1, .ref q2, .ref q3, .null, .null, .null, .null, .null, .null]))] ++ wlg u1 cI cB mu3 ly3) ++ wlg u2 cI cB mu8 ly8) ++ wlg u3 cI cB mu8 ly8) H := hP
  have hD : va_D A ((([(h0, .inr (8, [.ref q1, .ref q2, .ref q3, .null, .null, .null, .null, .null, .null]))] ++ wlg u1 cI cB mu3 ly3) ++ wlg u2 cI cB mu8 ly8) ++ wlg u3 cI cB mu8 ly8) := hD
  refine lv_aload_n hx hb dd_X9_37 rfl (lv_at hl 0 rfl) ?_
  refine mkC (own := RX9) (C := RX2) (T := TX2) (N := 2) (ci := 2) (nL := 1) (D := D) (cI := cI) (cB := cB) (ic_X2 l) hx hb hml hown hts hK hP hD hS hA hl.1 rfl iX2 tyX2 tyX2_ok (fun j hj => by rcases (show j = 0 ∨ j = 1 by omega) with rfl | rfl <;> rfl) (mg 148 (by decide +kernel)) (mg 149 (by decide +kernel)) (mg 29 (by decide +kernel)) (mem_g (i := 152) (by decide +kernel) rfl) (mg 150 (by decide +kernel)) (mg 151 (by decide +kernel)) ⟨rfl, rfl⟩ (by decide +kernel) ⟨rfl, rfl, Nat.le_of_ble_eq_true rfl, Nat.le_of_ble_eq_true rfl⟩ ⟨Nat.le_of_ble_eq_true rfl, Nat.le_of_ble_eq_true rfl⟩ (Nat.le_of_ble_eq_true rfl) dd_X9_38 dd_X9_41 dd_X9_42 (fun q4 u4 H locs hu4 hP hD hS => ?_)
  have hP : va_P D vwCl (((([(h0, .inr (8, [.ref q1, .ref q2, .ref q3, .null, .null, .null, .null, .null, .null]))] ++ wlg u1 cI cB mu3 ly3) ++ wlg u2 cI cB mu8 ly8) ++ wlg u3 cI cB mu8 ly8) ++ wlg u4 cI cB mu2 ly2) H := hP
  have hD : va_D A (((([(h0, .inr (8, [.ref q1, .ref q2, .ref q3, .null, .null, .null, .null, .null, .null]))] ++ wlg u1 cI cB mu3 ly3) ++ wlg u2 cI cB mu8 ly8) ++ wlg u3 cI cB mu8 ly8) ++ wlg u4 cI cB mu2 ly2) := hD
  refine va_putF (D := D) (ci := 8) (v := .ref q4) (ty := .object "ActsPaid$Image") (C := RX9) (T := TX9) (N := 9) hx hb hts iX9 tyX9 tyX9_ok nmX9 hown hK hP hD hS 0 rfl rfl 3 (by decide) (hts _ (mg 229 (by decide +kernel))) (fun _ h9 => h9) rfl hin rfl (by decide +kernel) rfl rfl (Nat.le_of_ble_eq_true rfl) dd_X9_45 (fun H locs hP hD hS => ?_)
  have hP : va_P D vwCl (((([(h0, .inr (8, [.ref q1, .ref q2, .ref q3, .ref q4, .null, .null, .null, .null, .null]))] ++ wlg u1 cI cB mu3 ly3) ++ wlg u2 cI cB mu8 ly8) ++ wlg u3 cI cB mu8 ly8) ++ wlg u4 cI cB mu2 ly2) H := hP
  have hD : va_D A (((([(h0, .inr (8, [.ref q1, .ref q2, .ref q3, .ref q4, .null, .null, .null, .null, .null]))] ++ wlg u1 cI cB mu3 ly3) ++ wlg u2 cI cB mu8 ly8) ++ wlg u3 cI cB mu8 ly8) ++ wlg u4 cI cB mu2 ly2) := hD
  refine lv_aload_n hx hb dd_X9_48 rfl (lv_at hl 0 rfl) ?_
  refine mkC (own := RX9) (C := RX2) (T := TX2) (N := 2) (ci := 2) (nL := 1) (D := D) (cI := cI) (cB := cB) (ic_X2 l) hx hb hml hown hts hK hP hD hS hA hl.1 rfl iX2 tyX2 tyX2_ok (fun j hj => by rcases (show j = 0 ∨ j = 1 by omega) with rfl | rfl <;> rfl) (mg 148 (by decide +kernel)) (mg 149 (by decide +kernel)) (mg 29 (by decide +kernel)) (mem_g (i := 152) (by decide +kernel) rfl) (mg 150 (by decide +kernel)) (mg 151 (by decide +kernel)) ⟨rfl, rfl⟩ (by decide +kernel) ⟨rfl, rfl, Nat.le_of_ble_eq_true rfl, Nat.le_of_ble_eq_true rfl⟩ ⟨Nat.le_of_ble_eq_true rfl, Nat.le_of_ble_eq_true rfl⟩ (Nat.le_of_ble_eq_true rfl) dd_X9_49 dd_X9_52 dd_X9_53 (fun q5 u5 H locs hu5 hP hD hS => ?_)
  have hP : va_P D vwCl ((((([(h0, .inr (8, [.ref q1, .ref q2, .ref q3, .ref q4, .null, .null, .null, .null, .null]))] ++ wlg u1 cI cB mu3 ly3) ++ wlg u2 cI cB mu8 ly8) ++ wlg u3 cI cB mu8 ly8) ++ wlg u4 cI cB mu2 ly2) ++ wlg u5 cI cB mu2 ly2) H := hP
  have hD : va_D A ((((([(h0, .inr (8, [.ref q1, .ref q2, .ref q3, .ref q4, .null, .null, .null, .null, .null]))] ++ wlg u1 cI cB mu3 ly3) ++ wlg u2 cI cB mu8 ly8) ++ wlg u3 cI cB mu8 ly8) ++ wlg u4 cI cB mu2 ly2) ++ wlg u5 cI cB mu2 ly2) := hD
  refine va_putF (D := D) (ci := 8) (v := .ref q5) (ty := .object "ActsPaid$Image") (C := RX9) (T := TX9) (N := 9) hx hb hts iX9 tyX9 tyX9_ok nmX9 hown hK hP hD hS 0 rfl rfl 4 (by decide) (hts _ (mg 230 (by decide +kernel))) (fun _ h9 => h9) rfl hin rfl (by decide +kernel) rfl rfl (Nat.le_of_ble_eq_true rfl) dd_X9_56 (fun H locs hP hD hS => ?_)
  have hP : va_P D vwCl ((((([(h0, .inr (8, [.ref q1, .ref q2, .ref q3, .ref q4, .ref q5, .null, .null, .null, .null]))] ++ wlg u1 cI cB mu3 ly3) ++ wlg u2 cI cB mu8 ly8) ++ wlg u3 cI cB mu8 ly8) ++ wlg u4 cI cB mu2 ly2) ++ wlg u5 cI cB mu2 ly2) H := hP
  have hD : va_D A ((((([(h0, .inr (8, [.ref q1, .ref q2, .ref q3, .ref q4, .ref q5, .null, .null, .null, .null]))] ++ wlg u1 cI cB mu3 ly3) ++ wlg u2 cI cB mu8 ly8) ++ wlg u3 cI cB mu8 ly8) ++ wlg u4 cI cB mu2 ly2) ++ wlg u5 cI cB mu2 ly2) := hD
  refine lv_aload_n hx hb dd_X9_59 rfl (lv_at hl 0 rfl) ?_
  refine mkC (own := RX9) (C := RX4) (T := TX4) (N := 1) (ci := 4) (nL := 1) (D := D) (cI := cI) (cB := cB) (ic_X4 l) hx hb hml hown hts hK hP hD hS hA hl.1 rfl iX4 tyX4 tyX4_ok (fun j hj => by rcases (show j = 0 by omega) with rfl <;> rfl) (mg 164 (by decide +kernel)) (mg 165 (by decide +kernel)) (mg 30 (by decide +kernel)) (mem_g (i := 168) (by decide +kernel) rfl) (mg 166 (by decide +kernel)) (mg 167 (by decide +kernel)) ⟨rfl, rfl⟩ (by decide +kernel) ⟨rfl, rfl, Nat.le_of_ble_eq_true rfl, Nat.le_of_ble_eq_true rfl⟩ ⟨Nat.le_of_ble_eq_true rfl, Nat.le_of_ble_eq_true rfl⟩ (Nat.le_of_ble_eq_true rfl) dd_X9_60 dd_X9_63 dd_X9_64 (fun q6 u6 H locs hu6 hP hD hS => ?_)
  have hP : va_P D vwCl (((((([(h0, .inr (8, [.ref q1, .ref q2, .ref q3, .ref q4, .ref q5, .null, .null, .null, .null]))] ++ wlg u1 cI cB mu3 ly3) ++ wlg u2 cI cB mu8 ly8) ++ wlg u3 cI cB mu8 ly8) ++ wlg u4 cI cB mu2 ly2) ++ wlg u5 cI cB mu2 ly2) ++ wlg u6 cI cB mu4 ly4) H := hP
  have hD : va_D A (((((([(h0, .inr (8, [.ref q1, .ref q2, .ref q3, .ref q4, .ref q5, .null, .null, .null, .null]))] ++ wlg u1 cI cB mu3 ly3) ++ wlg u2 cI cB mu8 ly8) ++ wlg u3 cI cB mu8 ly8) ++ wlg u4 cI cB mu2 ly2) ++ wlg u5 cI cB mu2 ly2) ++ wlg u6 cI cB mu4 ly4) := hD
  refine va_putF (D := D) (ci := 8) (v := .ref q6) (ty := .object "ActsPaid$Programme") (C := RX9) (T := TX9) (N := 9) hx hb hts iX9 tyX9 tyX9_ok nmX9 hown hK hP hD hS 0 rfl rfl 5 (by decide) (hts _ (mg 231 (by decide +kernel))) (fun _ h9 => h9) rfl hin rfl (by decide +kernel) rfl rfl (Nat.le_of_ble_eq_true rfl) dd_X9_67 (fun H locs hP hD hS => ?_)
  have hP : va_P D vwCl (((((([(h0, .inr (8, [.ref q1, .ref q2, .ref q3, .ref q4, .ref q5, .ref q6, .null, .null, .null]))] ++ wlg u1 cI cB mu3 ly3) ++ wlg u2 cI cB mu8 ly8) ++ wlg u3 cI cB mu8 ly8) ++ wlg u4 cI cB mu2 ly2) ++ wlg u5 cI cB mu2 ly2) ++ wlg u6 cI cB mu4 ly4) H := hP
  have hD : va_D A (((((([(h0, .inr (8, [.ref q1, .ref q2, .ref q3, .ref q4, .ref q5, .ref q6, .null, .null, .null]))] ++ wlg u1 cI cB mu3 ly3) ++ wlg u2 cI cB mu8 ly8) ++ wlg u3 cI cB mu8 ly8) ++ wlg u4 cI cB mu2 ly2) ++ wlg u5 cI cB mu2 ly2) ++ wlg u6 cI cB mu4 ly4) := hD
  refine lv_aload_n hx hb dd_X9_70 rfl (lv_at hl 0 rfl) ?_
  refine mkC (own := RX9) (C := RX6) (T := TX6) (N := 2) (ci := 5) (nL := 1) (D := D) (cI := cI) (cB := cB) (ic_X6 l) hx hb hml hown hts hK hP hD hS hA hl.1 rfl iX6 tyX6 tyX6_ok (fun j hj => by rcases (show j = 0 ∨ j = 1 by omega) with rfl | rfl <;> rfl) (mg 174 (by decide +kernel)) (mg 175 (by decide +kernel)) (mg 31 (by decide +kernel)) (mem_g (i := 178) (by decide +kernel) rfl) (mg 176 (by decide +kernel)) (mg 177 (by decide +kernel)) ⟨rfl, rfl⟩ (by decide +kernel) ⟨rfl, rfl, Nat.le_of_ble_eq_true rfl, Nat.le_of_ble_eq_true rfl⟩ ⟨Nat.le_of_ble_eq_true rfl, Nat.le_of_ble_eq_true rfl⟩ (Nat.le_of_ble_eq_true rfl) dd_X9_71 dd_X9_74 dd_X9_75 (fun q7 u7 H locs hu7 hP hD hS => ?_)
  have hP : va_P D vwCl ((((((([(h0, .inr (8, [.ref q1, .ref q2, .ref q3, .ref q4, .ref q5, .ref q6, .null, .null, .null]))] ++ wlg u1 cI cB mu3 ly3) ++ wlg u2 cI cB mu8 ly8) ++ wlg u3 cI cB mu8 ly8) ++ wlg u4 cI cB mu2 ly2) ++ wlg u5 cI cB mu2 ly2) ++ wlg u6 cI cB mu4 ly4) ++ wlg u7 cI cB mu6 ly6) H := hP
  have hD : va_D A ((((((([(h0, .inr (8, [.ref q1, .ref q2, .ref q3, .ref q4, .ref q5, .ref q6, .null, .null, .null]))] ++ wlg u1 cI cB mu3 ly3) ++ wlg u2 cI cB mu8 ly8) ++ wlg u3 cI cB mu8 ly8) ++ wlg u4 cI cB mu2 ly2) ++ wlg u5 cI cB mu2 ly2) ++ wlg u6 cI cB mu4 ly4) ++ wlg u7 cI cB mu6 ly6) := hD
  refine va_putF (D := D) (ci := 8) (v := .ref q7) (ty := .object "ActsPaid$Seats") (C := RX9) (T := TX9) (N := 9) hx hb hts iX9 tyX9 tyX9_ok nmX9 hown hK hP hD hS 0 rfl rfl 6 (by decide) (hts _ (mg 232 (by decide +kernel))) (fun _ h9 => h9) rfl hin rfl (by decide +kernel) rfl rfl (Nat.le_of_ble_eq_true rfl) dd_X9_78 (fun H locs hP hD hS => ?_)
  have hP : va_P D vwCl ((((((([(h0, .inr (8, [.ref q1, .ref q2, .ref q3, .ref q4, .ref q5, .ref q6, .ref q7, .null, .null]))] ++ wlg u1 cI cB mu3 ly3) ++ wlg u2 cI cB mu8 ly8) ++ wlg u3 cI cB mu8 ly8) ++ wlg u4 cI cB mu2 ly2) ++ wlg u5 cI cB mu2 ly2) ++ wlg u6 cI cB mu4 ly4) ++ wlg u7 cI cB mu6 ly6) H := hP
  have hD : va_D A ((((((([(h0, .inr (8, [.ref q1, .ref q2, .ref q3, .ref q4, .ref q5, .ref q6, .ref q7, .null, .null]))] ++ wlg u1 cI cB mu3 ly3) ++ wlg u2 cI cB mu8 ly8) ++ wlg u3 cI cB mu8 ly8) ++ wlg u4 cI cB mu2 ly2) ++ wlg u5 cI cB mu2 ly2) ++ wlg u6 cI cB mu4 ly4) ++ wlg u7 cI cB mu6 ly6) := hD
  refine lv_aload_n hx hb dd_X9_81 rfl (lv_at hl 0 rfl) ?_
  refine mkC (own := RX9) (C := RX1) (T := TX1) (N := 6) (ci := 1) (nL := 1) (D := D) (cI := cI) (cB := cB) (ic_X1 l) hx hb hml hown hts hK hP hD hS hA hl.1 rfl iX1 tyX1 tyX1_ok (fun j hj => by rcases (show j = 0 ∨ j = 1 ∨ j = 2 ∨ j = 3 ∨ j = 4 ∨ j = 5 by omega) with rfl | rfl | rfl | rfl | rfl | rfl <;> rfl) (mg 187 (by decide +kernel)) (mg 188 (by decide +kernel)) (mg 32 (by decide +kernel)) (mem_g (i := 191) (by decide +kernel) rfl) (mg 189 (by decide +kernel)) (mg 190 (by decide +kernel)) ⟨rfl, rfl⟩ (by decide +kernel) ⟨rfl, rfl, Nat.le_of_ble_eq_true rfl, Nat.le_of_ble_eq_true rfl⟩ ⟨Nat.le_of_ble_eq_true rfl, Nat.le_of_ble_eq_true rfl⟩ (Nat.le_of_ble_eq_true rfl) dd_X9_82 dd_X9_85 dd_X9_86 (fun q8 u8 H locs hu8 hP hD hS => ?_)
  have hP : va_P D vwCl (((((((([(h0, .inr (8, [.ref q1, .ref q2, .ref q3, .ref q4, .ref q5, .ref q6, .ref q7, .null, .null]))] ++ wlg u1 cI cB mu3 ly3) ++ wlg u2 cI cB mu8 ly8) ++ wlg u3 cI cB mu8 ly8) ++ wlg u4 cI cB mu2 ly2) ++ wlg u5 cI cB mu2 ly2) ++ wlg u6 cI cB mu4 ly4) ++ wlg u7 cI cB mu6 ly6) ++ wlg u8 cI cB mu1 ly1) H := hP
  have hD : va_D A (((((((([(h0, .inr (8, [.ref q1, .ref q2, .ref q3, .ref q4, .ref q5, .ref q6, .ref q7, .null, .null]))] ++ wlg u1 cI cB mu3 ly3) ++ wlg u2 cI cB mu8 ly8) ++ wlg u3 cI cB mu8 ly8) ++ wlg u4 cI cB mu2 ly2) ++ wlg u5 cI cB mu2 ly2) ++ wlg u6 cI cB mu4 ly4) ++ wlg u7 cI cB mu6 ly6) ++ wlg u8 cI cB mu1 ly1) := hD
  refine va_putF (D := D) (ci := 8) (v := .ref q8) (ty := .object "ActsPaid$Houses") (C := RX9) (T := TX9) (N := 9) hx hb hts iX9 tyX9 tyX9_ok nmX9 hown hK hP hD hS 0 rfl rfl 7 (by decide) (hts _ (mg 233 (by decide +kernel))) (fun _ h9 => h9) rfl hin rfl (by decide +kernel) rfl rfl (Nat.le_of_ble_eq_true rfl) dd_X9_89 (fun H locs hP hD hS => ?_)
  have hP : va_P D vwCl (((((((([(h0, .inr (8, [.ref q1, .ref q2, .ref q3, .ref q4, .ref q5, .ref q6, .ref q7, .ref q8, .null]))] ++ wlg u1 cI cB mu3 ly3) ++ wlg u2 cI cB mu8 ly8) ++ wlg u3 cI cB mu8 ly8) ++ wlg u4 cI cB mu2 ly2) ++ wlg u5 cI cB mu2 ly2) ++ wlg u6 cI cB mu4 ly4) ++ wlg u7 cI cB mu6 ly6) ++ wlg u8 cI cB mu1 ly1) H := hP
  have hD : va_D A (((((((([(h0, .inr (8, [.ref q1, .ref q2, .ref q3, .ref q4, .ref q5, .ref q6, .ref q7, .ref q8, .null]))] ++ wlg u1 cI cB mu3 ly3) ++ wlg u2 cI cB mu8 ly8) ++ wlg u3 cI cB mu8 ly8) ++ wlg u4 cI cB mu2 ly2) ++ wlg u5 cI cB mu2 ly2) ++ wlg u6 cI cB mu4 ly4) ++ wlg u7 cI cB mu6 ly6) ++ wlg u8 cI cB mu1 ly1) := hD
  refine lv_aload_n hx hb dd_X9_92 rfl (lv_at hl 0 rfl) ?_
  refine mkC (own := RX9) (C := RX0) (T := TX0) (N := 1) (ci := 0) (nL := 1) (D := D) (cI := cI) (cB := cB) (ic_X0 l) hx hb hml hown hts hK hP hD hS hA hl.1 rfl iX0 tyX0 tyX0_ok (fun j hj => by rcases (show j = 0 by omega) with rfl <;> rfl) (mg 216 (by decide +kernel)) (mg 217 (by decide +kernel)) (mg 33 (by decide +kernel)) (mem_g (i := 220) (by decide +kernel) rfl) (mg 218 (by decide +kernel)) (mg 219 (by decide +kernel)) ⟨rfl, rfl⟩ (by decide +kernel) ⟨rfl, rfl, Nat.le_of_ble_eq_true rfl, Nat.le_of_ble_eq_true rfl⟩ ⟨Nat.le_of_ble_eq_true rfl, Nat.le_of_ble_eq_true rfl⟩ (Nat.le_of_ble_eq_true rfl) dd_X9_93 dd_X9_96 dd_X9_97 (fun q9 u9 H locs hu9 hP hD hS => ?_)
  have hP : va_P D vwCl ((((((((([(h0, .inr (8, [.ref q1, .ref q2, .ref q3, .ref q4, .ref q5, .ref q6, .ref q7, .ref q8, .null]))] ++ wlg u1 cI cB mu3 ly3) ++ wlg u2 cI cB mu8 ly8) ++ wlg u3 cI cB mu8 ly8) ++ wlg u4 cI cB mu2 ly2) ++ wlg u5 cI cB mu2 ly2) ++ wlg u6 cI cB mu4 ly4) ++ wlg u7 cI cB mu6 ly6) ++ wlg u8 cI cB mu1 ly1) ++ wlg u9 cI cB mu0 ly0) H := hP
  have hD : va_D A ((((((((([(h0, .inr (8, [.ref q1, .ref q2, .ref q3, .ref q4, .ref q5, .ref q6, .ref q7, .ref q8, .null]))] ++ wlg u1 cI cB mu3 ly3) ++ wlg u2 cI cB mu8 ly8) ++ wlg u3 cI cB mu8 ly8) ++ wlg u4 cI cB mu2 ly2) ++ wlg u5 cI cB mu2 ly2) ++ wlg u6 cI cB mu4 ly4) ++ wlg u7 cI cB mu6 ly6) ++ wlg u8 cI cB mu1 ly1) ++ wlg u9 cI cB mu0 ly0) := hD
  refine va_putF (D := D) (ci := 8) (v := .ref q9) (ty := .object "ActsPaid$Chances") (C := RX9) (T := TX9) (N := 9) hx hb hts iX9 tyX9 tyX9_ok nmX9 hown hK hP hD hS 0 rfl rfl 8 (by decide) (hts _ (mg 234 (by decide +kernel))) (fun _ h9 => h9) rfl hin rfl (by decide +kernel) rfl rfl (Nat.le_of_ble_eq_true rfl) dd_X9_100 (fun H locs hP hD hS => ?_)
  have hP : va_P D vwCl ((((((((([(h0, .inr (8, [.ref q1, .ref q2, .ref q3, .ref q4, .ref q5, .ref q6, .ref q7, .ref q8, .ref q9]))] ++ wlg u1 cI cB mu3 ly3) ++ wlg u2 cI cB mu8 ly8) ++ wlg u3 cI cB mu8 ly8) ++ wlg u4 cI cB mu2 ly2) ++ wlg u5 cI cB mu2 ly2) ++ wlg u6 cI cB mu4 ly4) ++ wlg u7 cI cB mu6 ly6) ++ wlg u8 cI cB mu1 ly1) ++ wlg u9 cI cB mu0 ly0) H := hP
  have hD : va_D A ((((((((([(h0, .inr (8, [.ref q1, .ref q2, .ref q3, .ref q4, .ref q5, .ref q6, .ref q7, .ref q8, .ref q9]))] ++ wlg u1 cI cB mu3 ly3) ++ wlg u2 cI cB mu8 ly8) ++ wlg u3 cI cB mu8 ly8) ++ wlg u4 cI cB mu2 ly2) ++ wlg u5 cI cB mu2 ly2) ++ wlg u6 cI cB mu4 ly4) ++ wlg u7 cI cB mu6 ly6) ++ wlg u8 cI cB mu1 ly1) ++ wlg u9 cI cB mu0 ly0) := hD
  subst hu1
  subst hu2
  subst hu3
  subst hu4
  subst hu5
  subst hu6
  subst hu7
  subst hu8
  subst hu9
  have hfin : (((((((((([(h0, .inr (8, [.ref (u1 0), .ref (u2 0), .ref (u3 0), .ref (u4 0), .ref (u5 0), .ref (u6 0), .ref (u7 0), .ref (u8 0), .ref (u9 0)]))] ++ wlg u1 cI cB mu3 ly3) ++ wlg u2 cI cB mu8 ly8) ++ wlg u3 cI cB mu8 ly8) ++ wlg u4 cI cB mu2 ly2) ++ wlg u5 cI cB mu2 ly2) ++ wlg u6 cI cB mu4 ly4) ++ wlg u7 cI cB mu6 ly6) ++ wlg u8 cI cB mu1 ly1) ++ wlg u9 cI cB mu0 ly0) : va_W) = wlg (fun c => if c < 1 then h0 else if c < 3 then u1 (c - 1) else if c < 13 then u2 (c - 3) else if c < 23 then u3 (c - 13) else if c < 34 then u4 (c - 23) else if c < 45 then u5 (c - 34) else if c < 47 then u6 (c - 45) else if c < 50 then u7 (c - 47) else if c < 53 then u8 (c - 50) else u9 (c - 53)) cI cB mu9 ly9 := by
    simp only [wlg_r]
    rfl
  rw [hfin] at hP hD
  refine W.widen (k := 54) (n := 2766) (Nat.le_of_ble_eq_true rfl) (Nat.le_of_ble_eq_true rfl) ?_
  exact W.vret hx hb hr (fun t ht hW => ⟨⟨_, rfl, rfl, by rw [ht]; exact hP, hD⟩, hS.F ht⟩) hS.2.2 dd_X9_103
