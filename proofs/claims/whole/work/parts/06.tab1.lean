/-! ===== printed by program: each method's table, what it does, its contract ===== -/
def calV (y : MethodName) (bt : ByteArray) (mL : Nat) (ret : Option FieldType) (n t : Nat) : Prop := (Cond.code y bt mL ret ∈ lw_g ∧ Cond.initialized y.cls ∈ lw_g) ∧ (y.cls ≠ "java/lang/invoke/MethodHandle" ∧ y.cls ≠ "java/lang/invoke/VarHandle") ∧ (parseMethodDescriptor y.desc).map (fun d => d.parameters.length) = some (n - 1) ∧ 1 ≤ n ∧ Cond.instanceMethod y ∈ lw_g ∧ Cond.selects y.cls y y ∈ lw_g ∧ ∃ q, vwCl[t]? = some q ∧ q.1 = y.cls
def calS (y : MethodName) (bt : ByteArray) (mL : Nat) (ret : Option FieldType) (n : Nat) : Prop := (Cond.code y bt mL ret ∈ lw_g ∧ Cond.initialized y.cls ∈ lw_g) ∧ (y.cls ≠ "java/lang/invoke/MethodHandle" ∧ y.cls ≠ "java/lang/invoke/VarHandle") ∧ (parseMethodDescriptor y.desc).map (fun d => d.parameters.length) = some n ∧ Cond.static y ∈ lw_g
theorem clV {l : Launch} {R rm : Room} {own : String} {idx n kind rt t mL : Nat} {sp : Sp} {y : MethodName} {bt : ByteArray} {ret : Option FieldType} (hk : Con l y bt mL ret rm kind rt sp) (h : calV y bt mL ret n t) (hr : rm.cells = 0 ∧ rm.slots = 0 ∧ rm.frames + 1 ≤ R.frames ∧ 8 + (mL + 11) + rm.locals ≤ R.locals) (hl : Cond.methodLink own idx y ∈ lw_g) : ClOK l R own idx (n, kind, rt, t + 1, sp) :=
  ⟨y, bt, mL, ret, rm, hk, hr, h.1, h.2.1, h.2.2.1, h.2.2.2.1, h.2.2.2.2.1, h.2.2.2.2.2.1, hl, h.2.2.2.2.2.2⟩
theorem clS {l : Launch} {R rm : Room} {own : String} {idx n kind rt mL : Nat} {sp : Sp} {y : MethodName} {bt : ByteArray} {ret : Option FieldType} (hk : Con l y bt mL ret rm kind rt sp) (h : calS y bt mL ret n) (hr : rm.cells = 0 ∧ rm.slots = 0 ∧ rm.frames + 1 ≤ R.frames ∧ 8 + (mL + 11) + rm.locals ≤ R.locals) (hl : Cond.methodLink own idx y ∈ lw_g) : ClOK l R own idx (n, kind, rt, 0, sp) :=
  ⟨y, bt, mL, ret, rm, hk, hr, h.1, h.2.1, h.2.2.1, h.2.2.2, Or.inl hl⟩
theorem clN {l : Launch} {R rm : Room} {own : String} {idx n kind rt mL : Nat} {sp : Sp} {bt : ByteArray} {ret : Option FieldType} (hk : Con l y_within bt mL ret rm kind rt sp) (h : calS y_within bt mL ret n) (hr : rm.cells = 0 ∧ rm.slots = 0 ∧ rm.frames + 1 ≤ R.frames ∧ 8 + (mL + 11) + rm.locals ≤ R.locals) (hl : nstL own idx) : ClOK l R own idx (n, kind, rt, 0, sp) :=
  ⟨y_within, bt, mL, ret, rm, hk, hr, h.1, h.2.1, h.2.2.1, h.2.2.2, Or.inr ⟨rfl, hl⟩⟩
theorem monoE_of {E : Ev} (h : ∀ q ∈ E.2.1, mono q.2.2.2.2.2) : monoE E := fun _ _ hc => h _ (lk_mem hc)
theorem cons_all {α : Type} {p : α → Prop} {x : α} {l : List α} (h : p x) (hl : ∀ y ∈ l, p y) : ∀ y ∈ x :: l, p y := all_cons h hl
theorem nil_all {α : Type} {p : α → Prop} : ∀ y ∈ ([] : List α), p y := fun _ h => absurd h List.not_mem_nil
theorem mg {w : Cond} (i : Nat) (h : decide (lw_tbl[i]? = some w) && goodWord w = true) : w ∈ lw_g := by
  simp only [Bool.and_eq_true, decide_eq_true_eq] at h
  exact mem_g h.1 h.2
def t_X9_within : List (Nat × Ao) := [
  (0, (7, 0, 0, 0, 0, 0, [])),
  (1, (7, 0, 0, 1, 0, 0, [])),
  (2, (49, 0, 0, 14, 0, 0, [])),
  (5, (7, 0, 0, 0, 0, 0, [])),
  (6, (7, 0, 0, 2, 0, 0, [])),
  (7, (51, 0, 0, 14, 0, 0, [])),
  (10, (0, 1, 0, 0, 0, 0, [])),
  (11, (40, 0, 0, 15, 0, 0, [])),
  (14, (0, 0, 0, 0, 0, 0, [])),
  (15, (64, 0, 0, 0, 0, 0, []))]
def e_X9_within : Ev := (t_X9_within, [], 4, 0, false, 0, fun _ => 0)
def s_X9_within : Sp := spc e_X9_within 3
theorem m_X9_within : monoE e_X9_within := monoE_of nil_all
theorem p_X9_within : mono s_X9_within := spc_mono m_X9_within _
theorem k_X9_within (l : Launch) : Con l y_within prog_1_method_35_code 3 (Option.some Jvm.ClassFile.FieldType.boolean) { frames := 0, cells := 0, slots := 0, locals := 0 } 1 0 s_X9_within := con_of l e_X9_within y_within prog_1_method_35_code 3 (Option.some Jvm.ClassFile.FieldType.boolean) _ (by decide +kernel) nil_all (Or.inl (by decide +kernel))
theorem f_X9_within : calS y_within prog_1_method_35_code 3 (Option.some Jvm.ClassFile.FieldType.boolean) 3 := ⟨⟨mem_g (i := 260) (by decide +kernel) rfl, mg 25 (by decide +kernel)⟩, by decide +kernel, by decide +kernel, mg 259 (by decide +kernel)⟩
def y_X8_comes : MethodName := ⟨"ActsPaid$Stage", "comes", "(I)Z"⟩
def t_X8_comes : List (Nat × Ao) := [
  (0, (7, 0, 0, 1, 0, 0, [])),
  (1, (0, 0, 0, 0, 0, 0, [])),
  (2, (1, 7, 0, 0, 0, 0, [])),
  (4, (63, 0, 0, 73, 0, 0, [])),
  (7, (41, 0, 0, 25, 0, 0, [])),
  (10, (9, 0, 0, 0, 0, 0, [])),
  (11, (55, 0, 0, 50, 229, 107, [])),
  (14, (7, 0, 0, 1, 0, 0, [])),
  (15, (29, 0, 0, 0, 0, 0, [])),
  (16, (0, 1, 0, 0, 0, 0, [])),
  (17, (25, 0, 0, 0, 0, 0, [])),
  (18, (41, 0, 0, 25, 0, 0, [])),
  (21, (0, 1, 0, 0, 0, 0, [])),
  (22, (40, 0, 0, 26, 0, 0, [])),
  (25, (0, 0, 0, 0, 0, 0, [])),
  (26, (64, 0, 0, 0, 0, 0, []))]
def e_X8_comes : Ev := (t_X8_comes, [(73, (3, 1, 0, 0, s_X9_within))], 4, 0, false, 0, fun _ => 0)
def s_X8_comes : Sp := spc e_X8_comes 2
theorem m_X8_comes : monoE e_X8_comes := monoE_of (cons_all (p_X9_within) nil_all)
theorem p_X8_comes : mono s_X8_comes := spc_mono m_X8_comes _
theorem k_X8_comes (l : Launch) : Con l y_X8_comes prog_10_method_7_code 2 (Option.some Jvm.ClassFile.FieldType.boolean) { frames := 1, cells := 0, slots := 0, locals := 22 } 1 0 s_X8_comes := con_of l e_X8_comes y_X8_comes prog_10_method_7_code 2 (Option.some Jvm.ClassFile.FieldType.boolean) _ (by decide +kernel) (cons_all (clN (k_X9_within l) f_X9_within ⟨rfl, rfl, Nat.le_of_ble_eq_true rfl, Nat.le_of_ble_eq_true rfl⟩ (by unfold nstL; decide +kernel)) nil_all) (Or.inl (by decide +kernel))
theorem f_X8_comes : calV y_X8_comes prog_10_method_7_code 2 (Option.some Jvm.ClassFile.FieldType.boolean) 2 7 := ⟨⟨mem_g (i := 351) (by decide +kernel) rfl, mg 27 (by decide +kernel)⟩, by decide +kernel, by decide +kernel, by decide, mg 349 (by decide +kernel), mg 350 (by decide +kernel), _, rfl, rfl⟩
def y_X5_at : MethodName := ⟨"ActsPaid$Rows", "at", "([II)I"⟩
def t_X5_at : List (Nat × Ao) := [
  (0, (9, 0, 0, 0, 0, 0, [])),
  (1, (53, 0, 0, 20, 0, 0, [])),
  (4, (7, 0, 0, 1, 0, 0, [])),
  (5, (43, 0, 0, 20, 0, 0, [])),
  (8, (7, 0, 0, 1, 0, 0, [])),
  (9, (9, 0, 0, 0, 0, 0, [])),
  (10, (61, 0, 0, 0, 0, 0, [])),
  (11, (50, 0, 0, 20, 0, 0, [])),
  (14, (9, 0, 0, 0, 0, 0, [])),
  (15, (7, 0, 0, 1, 0, 0, [])),
  (16, (57, 0, 0, 0, 0, 0, [])),
  (17, (40, 0, 0, 21, 0, 0, [])),
  (20, (0, 0, 0, 0, 0, 0, [])),
  (21, (64, 0, 0, 0, 0, 0, []))]
def e_X5_at : Ev := (t_X5_at, [], 1, 0, false, 0, fun _ => 0)
def s_X5_at : Sp := spc e_X5_at 2
theorem m_X5_at : monoE e_X5_at := monoE_of nil_all
theorem p_X5_at : mono s_X5_at := spc_mono m_X5_at _
theorem k_X5_at (l : Launch) : Con l y_X5_at prog_7_method_2_code 2 (Option.some Jvm.ClassFile.FieldType.int) { frames := 0, cells := 0, slots := 0, locals := 0 } 1 0 s_X5_at := con_of l e_X5_at y_X5_at prog_7_method_2_code 2 (Option.some Jvm.ClassFile.FieldType.int) _ (by decide +kernel) nil_all (Or.inl (by decide +kernel))
theorem f_X5_at : calS y_X5_at prog_7_method_2_code 2 (Option.some Jvm.ClassFile.FieldType.int) 2 := ⟨⟨mem_g (i := 314) (by decide +kernel) rfl, mg 35 (by decide +kernel)⟩, by decide +kernel, by decide +kernel, mg 313 (by decide +kernel)⟩
def y_X8_worthPlayed : MethodName := ⟨"ActsPaid$Stage", "worthPlayed", "(II)I"⟩
def t_X8_worthPlayed : List (Nat × Ao) := [
  (0, (9, 0, 0, 0, 0, 0, [])),
  (1, (55, 0, 0, 28, 231, 113, [])),
  (4, (7, 0, 0, 1, 0, 0, [])),
  (5, (1, 6, 0, 0, 0, 0, [])),
  (7, (21, 0, 0, 0, 0, 0, [])),
  (8, (9, 0, 0, 0, 0, 0, [])),
  (9, (55, 0, 0, 24, 230, 110, [])),
  (12, (7, 0, 0, 2, 0, 0, [])),
  (13, (63, 0, 0, 77, 0, 0, [])),
  (16, (19, 0, 0, 0, 0, 0, [])),
  (17, (63, 0, 0, 77, 0, 0, [])),
  (20, (64, 0, 0, 0, 0, 0, []))]
def e_X8_worthPlayed : Ev := (t_X8_worthPlayed, [(77, (2, 1, 0, 0, s_X5_at))], 1, 0, false, 0, fun _ => 0)
def s_X8_worthPlayed : Sp := spc e_X8_worthPlayed 3
theorem m_X8_worthPlayed : monoE e_X8_worthPlayed := monoE_of (cons_all (p_X5_at) nil_all)
theorem p_X8_worthPlayed : mono s_X8_worthPlayed := spc_mono m_X8_worthPlayed _
theorem k_X8_worthPlayed (l : Launch) : Con l y_X8_worthPlayed prog_10_method_11_code 3 (Option.some Jvm.ClassFile.FieldType.int) { frames := 1, cells := 0, slots := 0, locals := 21 } 1 0 s_X8_worthPlayed := con_of l e_X8_worthPlayed y_X8_worthPlayed prog_10_method_11_code 3 (Option.some Jvm.ClassFile.FieldType.int) _ (by decide +kernel) (cons_all (clS (k_X5_at l) f_X5_at ⟨rfl, rfl, Nat.le_of_ble_eq_true rfl, Nat.le_of_ble_eq_true rfl⟩ (mg 365 (by decide +kernel))) nil_all) (Or.inl (by decide +kernel))
theorem f_X8_worthPlayed : calV y_X8_worthPlayed prog_10_method_11_code 3 (Option.some Jvm.ClassFile.FieldType.int) 3 7 := ⟨⟨mem_g (i := 383) (by decide +kernel) rfl, mg 27 (by decide +kernel)⟩, by decide +kernel, by decide +kernel, by decide, mg 381 (by decide +kernel), mg 382 (by decide +kernel), _, rfl, rfl⟩
def y_X8_behind : MethodName := ⟨"ActsPaid$Stage", "behind", "(I)I"⟩
def t_X8_behind : List (Nat × Ao) := [
  (0, (0, 0, 0, 0, 0, 0, [])),
  (1, (13, 0, 0, 2, 0, 0, [])),
  (2, (0, 0, 0, 0, 0, 0, [])),
  (3, (13, 0, 0, 3, 0, 0, [])),
  (4, (0, 0, 0, 0, 0, 0, [])),
  (5, (14, 0, 0, 4, 0, 0, [])),
  (7, (0, 0, 0, 0, 0, 0, [])),
  (8, (14, 0, 0, 5, 0, 0, [])),
  (10, (8, 0, 0, 5, 0, 0, [])),
  (12, (9, 0, 0, 0, 0, 0, [])),
  (13, (55, 0, 0, 9, 224, 88, [])),
  (16, (50, 0, 0, 91, 0, 0, [])),
  (19, (7, 0, 0, 2, 0, 0, [])),
  (20, (9, 0, 0, 0, 0, 0, [])),
  (21, (7, 0, 0, 1, 0, 0, [])),
  (22, (8, 0, 0, 5, 0, 0, [])),
  (24, (62, 0, 0, 81, 0, 0, [])),
  (27, (9, 0, 0, 0, 0, 0, [])),
  (28, (55, 0, 0, 15, 225, 92, [])),
  (31, (20, 0, 0, 0, 0, 0, [])),
  (32, (8, 0, 0, 5, 0, 0, [])),
  (34, (9, 0, 0, 0, 0, 0, [])),
  (35, (55, 0, 0, 18, 226, 97, [])),
  (38, (21, 0, 0, 0, 0, 0, [])),
  (39, (20, 0, 0, 0, 0, 0, [])),
  (40, (19, 0, 0, 0, 0, 0, [])),
  (41, (13, 0, 0, 2, 0, 0, [])),
  (42, (9, 0, 0, 0, 0, 0, [])),
  (43, (55, 0, 0, 47, 227, 101, [])),
  (46, (41, 0, 0, 60, 0, 0, [])),
  (49, (8, 0, 0, 5, 0, 0, [])),
  (51, (9, 0, 0, 0, 0, 0, [])),
  (52, (55, 0, 0, 9, 224, 88, [])),
  (55, (0, 1, 0, 0, 0, 0, [])),
  (56, (20, 0, 0, 0, 0, 0, [])),
  (57, (48, 0, 0, 64, 0, 0, [])),
  (60, (0, 1, 0, 0, 0, 0, [])),
  (61, (40, 0, 0, 65, 0, 0, [])),
  (64, (0, 0, 0, 0, 0, 0, [])),
  (65, (14, 0, 0, 6, 0, 0, [])),
  (67, (8, 0, 0, 6, 0, 0, [])),
  (69, (41, 0, 0, 85, 0, 0, [])),
  (72, (7, 0, 0, 2, 0, 0, [])),
  (73, (7, 0, 0, 3, 0, 0, [])),
  (74, (52, 0, 0, 85, 0, 0, [])),
  (77, (7, 0, 0, 2, 0, 0, [])),
  (78, (13, 0, 0, 3, 0, 0, [])),
  (79, (8, 0, 0, 5, 0, 0, [])),
  (81, (0, 1, 0, 0, 0, 0, [])),
  (82, (19, 0, 0, 0, 0, 0, [])),
  (83, (14, 0, 0, 4, 0, 0, [])),
  (85, (39, 1, 0, 5, 0, 0, [])),
  (88, (40, 0, 0, 10, 0, 0, [])),
  (91, (8, 0, 0, 4, 0, 0, [])),
  (93, (64, 0, 0, 0, 0, 0, []))]
def e_X8_behind : Ev := (t_X8_behind, [(81, (3, 1, 0, 8, s_X8_worthPlayed))], 1, 0, false, 0, fun _ => 0)
def s_X8_behind : Sp := spc e_X8_behind 7
theorem m_X8_behind : monoE e_X8_behind := monoE_of (cons_all (p_X8_worthPlayed) nil_all)
theorem p_X8_behind : mono s_X8_behind := spc_mono m_X8_behind _
theorem k_X8_behind (l : Launch) : Con l y_X8_behind prog_10_method_14_code 7 (Option.some Jvm.ClassFile.FieldType.int) { frames := 2, cells := 0, slots := 0, locals := 43 } 1 0 s_X8_behind := con_of l e_X8_behind y_X8_behind prog_10_method_14_code 7 (Option.some Jvm.ClassFile.FieldType.int) _ (by decide +kernel) (cons_all (clV (k_X8_worthPlayed l) f_X8_worthPlayed ⟨rfl, rfl, Nat.le_of_ble_eq_true rfl, Nat.le_of_ble_eq_true rfl⟩ (mg 380 (by decide +kernel))) nil_all) (Or.inl (by decide +kernel))
theorem f_X8_behind : calV y_X8_behind prog_10_method_14_code 7 (Option.some Jvm.ClassFile.FieldType.int) 2 7 := ⟨⟨mem_g (i := 379) (by decide +kernel) rfl, mg 27 (by decide +kernel)⟩, by decide +kernel, by decide +kernel, by decide, mg 377 (by decide +kernel), mg 378 (by decide +kernel), _, rfl, rfl⟩
def y_X8_price : MethodName := ⟨"ActsPaid$Stage", "price", "(II)I"⟩
def t_X8_price : List (Nat × Ao) := [
  (0, (7, 0, 0, 2, 0, 0, [])),
  (1, (7, 0, 0, 1, 0, 0, [])),
  (2, (21, 0, 0, 0, 0, 0, [])),
  (3, (7, 0, 0, 2, 0, 0, [])),
  (4, (7, 0, 0, 2, 0, 0, [])),
  (5, (0, 1, 0, 0, 0, 0, [])),
  (6, (20, 0, 0, 0, 0, 0, [])),
  (7, (21, 0, 0, 0, 0, 0, [])),
  (8, (0, 2, 0, 0, 0, 0, [])),
  (9, (22, 0, 0, 0, 0, 0, [])),
  (10, (9, 0, 0, 0, 0, 0, [])),
  (11, (55, 0, 0, 18, 226, 97, [])),
  (14, (21, 0, 0, 0, 0, 0, [])),
  (15, (19, 0, 0, 0, 0, 0, [])),
  (16, (64, 0, 0, 0, 0, 0, []))]
def e_X8_price : Ev := (t_X8_price, [], 1, 0, false, 0, fun _ => 0)
def s_X8_price : Sp := spc e_X8_price 3
theorem m_X8_price : monoE e_X8_price := monoE_of nil_all
theorem p_X8_price : mono s_X8_price := spc_mono m_X8_price _
theorem k_X8_price (l : Launch) : Con l y_X8_price prog_10_method_13_code 3 (Option.some Jvm.ClassFile.FieldType.int) { frames := 0, cells := 0, slots := 0, locals := 0 } 1 0 s_X8_price := con_of l e_X8_price y_X8_price prog_10_method_13_code 3 (Option.some Jvm.ClassFile.FieldType.int) _ (by decide +kernel) nil_all (Or.inl (by decide +kernel))
theorem f_X8_price : calV y_X8_price prog_10_method_13_code 3 (Option.some Jvm.ClassFile.FieldType.int) 3 7 := ⟨⟨mem_g (i := 387) (by decide +kernel) rfl, mg 27 (by decide +kernel)⟩, by decide +kernel, by decide +kernel, by decide, mg 385 (by decide +kernel), mg 386 (by decide +kernel), _, rfl, rfl⟩
def y_X8_pays : MethodName := ⟨"ActsPaid$Stage", "pays", "(I)I"⟩
def t_X8_pays : List (Nat × Ao) := [
  (0, (9, 0, 0, 0, 0, 0, [])),
  (1, (7, 0, 0, 1, 0, 0, [])),
  (2, (62, 0, 0, 85, 0, 0, [])),
  (5, (41, 0, 0, 24, 0, 0, [])),
  (8, (9, 0, 0, 0, 0, 0, [])),
  (9, (9, 0, 0, 0, 0, 0, [])),
  (10, (55, 0, 0, 15, 225, 92, [])),
  (13, (9, 0, 0, 0, 0, 0, [])),
  (14, (7, 0, 0, 1, 0, 0, [])),
  (15, (62, 0, 0, 89, 0, 0, [])),
  (18, (62, 0, 0, 93, 0, 0, [])),
  (21, (40, 0, 0, 25, 0, 0, [])),
  (24, (0, 0, 0, 0, 0, 0, [])),
  (25, (64, 0, 0, 0, 0, 0, []))]
def e_X8_pays : Ev := (t_X8_pays, [(85, (2, 1, 0, 8, s_X8_comes)), (89, (2, 1, 0, 8, s_X8_behind)), (93, (3, 1, 0, 8, s_X8_price))], 1, 0, false, 0, fun _ => 0)
def s_X8_pays : Sp := spc e_X8_pays 2
theorem m_X8_pays : monoE e_X8_pays := monoE_of (cons_all (p_X8_comes) (cons_all (p_X8_behind) (cons_all (p_X8_price) nil_all)))
theorem p_X8_pays : mono s_X8_pays := spc_mono m_X8_pays _
theorem k_X8_pays (l : Launch) : Con l y_X8_pays prog_10_method_15_code 2 (Option.some Jvm.ClassFile.FieldType.int) { frames := 3, cells := 0, slots := 0, locals := 69 } 1 0 s_X8_pays := con_of l e_X8_pays y_X8_pays prog_10_method_15_code 2 (Option.some Jvm.ClassFile.FieldType.int) _ (by decide +kernel) (cons_all (clV (k_X8_comes l) f_X8_comes ⟨rfl, rfl, Nat.le_of_ble_eq_true rfl, Nat.le_of_ble_eq_true rfl⟩ (mg 404 (by decide +kernel))) (cons_all (clV (k_X8_behind l) f_X8_behind ⟨rfl, rfl, Nat.le_of_ble_eq_true rfl, Nat.le_of_ble_eq_true rfl⟩ (mg 405 (by decide +kernel))) (cons_all (clV (k_X8_price l) f_X8_price ⟨rfl, rfl, Nat.le_of_ble_eq_true rfl, Nat.le_of_ble_eq_true rfl⟩ (mg 406 (by decide +kernel))) nil_all))) (Or.inl (by decide +kernel))
theorem f_X8_pays : calV y_X8_pays prog_10_method_15_code 2 (Option.some Jvm.ClassFile.FieldType.int) 2 7 := ⟨⟨mem_g (i := 403) (by decide +kernel) rfl, mg 27 (by decide +kernel)⟩, by decide +kernel, by decide +kernel, by decide, mg 401 (by decide +kernel), mg 402 (by decide +kernel), _, rfl, rfl⟩
def y_X5_put : MethodName := ⟨"ActsPaid$Rows", "put", "([III)V"⟩
def t_X5_put : List (Nat × Ao) := [
  (0, (9, 0, 0, 0, 0, 0, [])),
  (1, (53, 0, 0, 18, 0, 0, [])),
  (4, (7, 0, 0, 1, 0, 0, [])),
  (5, (43, 0, 0, 18, 0, 0, [])),
  (8, (7, 0, 0, 1, 0, 0, [])),
  (9, (9, 0, 0, 0, 0, 0, [])),
  (10, (61, 0, 0, 0, 0, 0, [])),
  (11, (50, 0, 0, 18, 0, 0, [])),
  (14, (9, 0, 0, 0, 0, 0, [])),
  (15, (7, 0, 0, 1, 0, 0, [])),
  (16, (7, 0, 0, 2, 0, 0, [])),
  (17, (58, 0, 0, 0, 0, 0, [])),
  (18, (66, 0, 0, 0, 0, 0, []))]
def e_X5_put : Ev := (t_X5_put, [], 0, 0, false, 0, fun _ => 0)
def s_X5_put : Sp := spc e_X5_put 3
theorem m_X5_put : monoE e_X5_put := monoE_of nil_all
theorem p_X5_put : mono s_X5_put := spc_mono m_X5_put _
theorem k_X5_put (l : Launch) : Con l y_X5_put prog_7_method_3_code 3 (Option.none : Option Jvm.ClassFile.FieldType) { frames := 0, cells := 0, slots := 0, locals := 0 } 0 0 s_X5_put := con_of l e_X5_put y_X5_put prog_7_method_3_code 3 (Option.none : Option Jvm.ClassFile.FieldType) _ (by decide +kernel) nil_all (Or.inl (by decide +kernel))
theorem f_X5_put : calS y_X5_put prog_7_method_3_code 3 (Option.none : Option Jvm.ClassFile.FieldType) 3 := ⟨⟨mem_g (i := 271) (by decide +kernel) rfl, mg 35 (by decide +kernel)⟩, by decide +kernel, by decide +kernel, mg 270 (by decide +kernel)⟩
def y_X0_readPayments : MethodName := ⟨"ActsPaid$Chances", "readPayments", "(LActsPaid$Stage;)V"⟩
def t_X0_readPayments : List (Nat × Ao) := [
  (0, (0, 0, 0, 0, 0, 0, [])),
  (1, (13, 0, 0, 2, 0, 0, [])),
  (2, (7, 0, 0, 2, 0, 0, [])),
  (3, (1, 8, 0, 0, 0, 0, [])),
  (5, (50, 0, 0, 27, 0, 0, [])),
  (8, (9, 0, 0, 0, 0, 0, [])),
  (9, (55, 0, 0, 9, 0, 222, [])),
  (12, (7, 0, 0, 2, 0, 0, [])),
  (13, (9, 0, 0, 1, 0, 0, [])),
  (14, (7, 0, 0, 2, 0, 0, [])),
  (15, (62, 0, 0, 15, 0, 0, [])),
  (18, (63, 0, 0, 21, 0, 0, [])),
  (21, (39, 1, 0, 2, 0, 0, [])),
  (24, (40, 0, 0, 2, 0, 0, [])),
  (27, (66, 0, 0, 0, 0, 0, []))]
def e_X0_readPayments : Ev := (t_X0_readPayments, [(15, (2, 1, 0, 8, s_X8_pays)), (21, (3, 0, 0, 0, s_X5_put))], 0, 0, false, 0, fun _ => 0)
def s_X0_readPayments : Sp := spc e_X0_readPayments 3
theorem m_X0_readPayments : monoE e_X0_readPayments := monoE_of (cons_all (p_X8_pays) (cons_all (p_X5_put) nil_all))
theorem p_X0_readPayments : mono s_X0_readPayments := spc_mono m_X0_readPayments _
theorem k_X0_readPayments (l : Launch) : Con l y_X0_readPayments prog_2_method_2_code 3 (Option.none : Option Jvm.ClassFile.FieldType) { frames := 4, cells := 0, slots := 0, locals := 90 } 0 0 s_X0_readPayments := con_of l e_X0_readPayments y_X0_readPayments prog_2_method_2_code 3 (Option.none : Option Jvm.ClassFile.FieldType) _ (by decide +kernel) (cons_all (clV (k_X8_pays l) f_X8_pays ⟨rfl, rfl, Nat.le_of_ble_eq_true rfl, Nat.le_of_ble_eq_true rfl⟩ (mg 614 (by decide +kernel))) (cons_all (clS (k_X5_put l) f_X5_put ⟨rfl, rfl, Nat.le_of_ble_eq_true rfl, Nat.le_of_ble_eq_true rfl⟩ (mg 615 (by decide +kernel))) nil_all)) (Or.inl (by decide +kernel))
theorem f_X0_readPayments : calV y_X0_readPayments prog_2_method_2_code 3 (Option.none : Option Jvm.ClassFile.FieldType) 2 0 := ⟨⟨mem_g (i := 613) (by decide +kernel) rfl, mg 33 (by decide +kernel)⟩, by decide +kernel, by decide +kernel, by decide, mg 611 (by decide +kernel), mg 612 (by decide +kernel), _, rfl, rfl⟩
def y_X0_paidBy : MethodName := ⟨"ActsPaid$Chances", "paidBy", "(I)I"⟩
def t_X0_paidBy : List (Nat × Ao) := [
  (0, (0, 0, 0, 0, 0, 0, [])),
  (1, (13, 0, 0, 2, 0, 0, [])),
  (2, (0, 0, 0, 0, 0, 0, [])),
  (3, (13, 0, 0, 3, 0, 0, [])),
  (4, (7, 0, 0, 3, 0, 0, [])),
  (5, (1, 8, 0, 0, 0, 0, [])),
  (7, (50, 0, 0, 35, 0, 0, [])),
  (10, (7, 0, 0, 1, 0, 0, [])),
  (11, (7, 0, 0, 3, 0, 0, [])),
  (12, (29, 0, 0, 0, 0, 0, [])),
  (13, (0, 1, 0, 0, 0, 0, [])),
  (14, (25, 0, 0, 0, 0, 0, [])),
  (15, (41, 0, 0, 29, 0, 0, [])),
  (18, (7, 0, 0, 2, 0, 0, [])),
  (19, (9, 0, 0, 0, 0, 0, [])),
  (20, (55, 0, 0, 9, 0, 222, [])),
  (23, (7, 0, 0, 3, 0, 0, [])),
  (24, (63, 0, 0, 27, 0, 0, [])),
  (27, (19, 0, 0, 0, 0, 0, [])),
  (28, (13, 0, 0, 2, 0, 0, [])),
  (29, (39, 1, 0, 3, 0, 0, [])),
  (32, (40, 0, 0, 4, 0, 0, [])),
  (35, (7, 0, 0, 2, 0, 0, [])),
  (36, (64, 0, 0, 0, 0, 0, []))]
def e_X0_paidBy : Ev := (t_X0_paidBy, [(27, (2, 1, 0, 0, s_X5_at))], 1, 0, false, 0, fun _ => 0)
def s_X0_paidBy : Sp := spc e_X0_paidBy 4
theorem m_X0_paidBy : monoE e_X0_paidBy := monoE_of (cons_all (p_X5_at) nil_all)
theorem p_X0_paidBy : mono s_X0_paidBy := spc_mono m_X0_paidBy _
theorem k_X0_paidBy (l : Launch) : Con l y_X0_paidBy prog_2_method_3_code 4 (Option.some Jvm.ClassFile.FieldType.int) { frames := 1, cells := 0, slots := 0, locals := 21 } 1 0 s_X0_paidBy := con_of l e_X0_paidBy y_X0_paidBy prog_2_method_3_code 4 (Option.some Jvm.ClassFile.FieldType.int) _ (by decide +kernel) (cons_all (clS (k_X5_at l) f_X5_at ⟨rfl, rfl, Nat.le_of_ble_eq_true rfl, Nat.le_of_ble_eq_true rfl⟩ (mg 620 (by decide +kernel))) nil_all) (Or.inl (by decide +kernel))
theorem f_X0_paidBy : calV y_X0_paidBy prog_2_method_3_code 4 (Option.some Jvm.ClassFile.FieldType.int) 2 0 := ⟨⟨mem_g (i := 619) (by decide +kernel) rfl, mg 33 (by decide +kernel)⟩, by decide +kernel, by decide +kernel, by decide, mg 617 (by decide +kernel), mg 618 (by decide +kernel), _, rfl, rfl⟩
def y_X0_waysOf : MethodName := ⟨"ActsPaid$Chances", "waysOf", "(LActsPaid$Stage;II)J"⟩
def t_X0_waysOf : List (Nat × Ao) := [
  (0, (5, 0, 1, 0, 0, 0, [])),
  (1, (17, 0, 0, 3, 0, 0, [])),
  (2, (0, 0, 0, 0, 0, 0, [])),
  (3, (14, 0, 0, 5, 0, 0, [])),
  (5, (8, 0, 0, 5, 0, 0, [])),
  (7, (1, 8, 0, 0, 0, 0, [])),
  (9, (50, 0, 0, 49, 0, 0, [])),
  (12, (9, 0, 0, 0, 0, 0, [])),
  (13, (8, 0, 0, 5, 0, 0, [])),
  (15, (62, 0, 0, 57, 0, 0, [])),
  (18, (41, 0, 0, 43, 0, 0, [])),
  (21, (11, 0, 0, 3, 0, 0, [])),
  (22, (7, 0, 0, 1, 0, 0, [])),
  (23, (8, 0, 0, 5, 0, 0, [])),
  (25, (29, 0, 0, 0, 0, 0, [])),
  (26, (0, 1, 0, 0, 0, 0, [])),
  (27, (25, 0, 0, 0, 0, 0, [])),
  (28, (41, 0, 0, 36, 0, 0, [])),
  (31, (7, 0, 0, 2, 0, 0, [])),
  (32, (36, 0, 0, 0, 0, 0, [])),
  (33, (40, 0, 0, 41, 0, 0, [])),
  (36, (1, 10, 0, 0, 0, 0, [])),
  (38, (7, 0, 0, 2, 0, 0, [])),
  (39, (20, 0, 0, 0, 0, 0, [])),
  (40, (36, 0, 0, 0, 0, 0, [])),
  (41, (32, 0, 0, 0, 0, 0, [])),
  (42, (17, 0, 0, 3, 0, 0, [])),
  (43, (39, 1, 0, 5, 0, 0, [])),
  (46, (40, 0, 0, 5, 0, 0, [])),
  (49, (11, 0, 0, 3, 0, 0, [])),
  (50, (65, 0, 0, 0, 0, 0, []))]
def e_X0_waysOf : Ev := (t_X0_waysOf, [(57, (2, 1, 0, 8, s_X8_comes))], 2, 0, true, 0, fun _ => 0)
def s_X0_waysOf : Sp := spc e_X0_waysOf 6
theorem m_X0_waysOf : monoE e_X0_waysOf := monoE_of (cons_all (p_X8_comes) nil_all)
theorem p_X0_waysOf : mono s_X0_waysOf := spc_mono m_X0_waysOf _
theorem k_X0_waysOf (l : Launch) : Con l y_X0_waysOf prog_2_method_5_code 6 (Option.some Jvm.ClassFile.FieldType.long) { frames := 2, cells := 0, slots := 0, locals := 43 } 2 0 s_X0_waysOf := con_of l e_X0_waysOf y_X0_waysOf prog_2_method_5_code 6 (Option.some Jvm.ClassFile.FieldType.long) _ (by decide +kernel) (cons_all (clV (k_X8_comes l) f_X8_comes ⟨rfl, rfl, Nat.le_of_ble_eq_true rfl, Nat.le_of_ble_eq_true rfl⟩ (mg 624 (by decide +kernel))) nil_all) (Or.inl (by decide +kernel))
theorem f_X0_waysOf : calS y_X0_waysOf prog_2_method_5_code 6 (Option.some Jvm.ClassFile.FieldType.long) 3 := ⟨⟨mem_g (i := 623) (by decide +kernel) rfl, mg 33 (by decide +kernel)⟩, by decide +kernel, by decide +kernel, mg 622 (by decide +kernel)⟩
def y_J6_bitCount : MethodName := ⟨"java/lang/Integer", "bitCount", "(I)I"⟩
def t_J6_bitCount : List (Nat × Ao) := [
  (0, (7, 0, 0, 0, 0, 0, [])),
  (1, (7, 0, 0, 0, 0, 0, [])),
  (2, (0, 1, 0, 0, 0, 0, [])),
  (3, (30, 0, 0, 0, 0, 0, [])),
  (4, (4, 1431655765, 0, 265, 0, 341, [])),
  (7, (25, 0, 0, 0, 0, 0, [])),
  (8, (20, 0, 0, 0, 0, 0, [])),
  (9, (13, 0, 0, 0, 0, 0, [])),
  (10, (7, 0, 0, 0, 0, 0, [])),
  (11, (4, 858993459, 0, 266, 0, 342, [])),
  (14, (25, 0, 0, 0, 0, 0, [])),
  (15, (7, 0, 0, 0, 0, 0, [])),
  (16, (0, 2, 0, 0, 0, 0, [])),
  (17, (30, 0, 0, 0, 0, 0, [])),
  (18, (4, 858993459, 0, 266, 0, 342, [])),
  (21, (25, 0, 0, 0, 0, 0, [])),
  (22, (19, 0, 0, 0, 0, 0, [])),
  (23, (13, 0, 0, 0, 0, 0, [])),
  (24, (7, 0, 0, 0, 0, 0, [])),
  (25, (7, 0, 0, 0, 0, 0, [])),
  (26, (0, 4, 0, 0, 0, 0, [])),
  (27, (30, 0, 0, 0, 0, 0, [])),
  (28, (19, 0, 0, 0, 0, 0, [])),
  (29, (4, 252645135, 0, 267, 0, 343, [])),
  (32, (25, 0, 0, 0, 0, 0, [])),
  (33, (13, 0, 0, 0, 0, 0, [])),
  (34, (7, 0, 0, 0, 0, 0, [])),
  (35, (7, 0, 0, 0, 0, 0, [])),
  (36, (1, 8, 0, 0, 0, 0, [])),
  (38, (30, 0, 0, 0, 0, 0, [])),
  (39, (19, 0, 0, 0, 0, 0, [])),
  (40, (13, 0, 0, 0, 0, 0, [])),
  (41, (7, 0, 0, 0, 0, 0, [])),
  (42, (7, 0, 0, 0, 0, 0, [])),
  (43, (1, 16, 0, 0, 0, 0, [])),
  (45, (30, 0, 0, 0, 0, 0, [])),
  (46, (19, 0, 0, 0, 0, 0, [])),
  (47, (13, 0, 0, 0, 0, 0, [])),
  (48, (7, 0, 0, 0, 0, 0, [])),
  (49, (1, 63, 0, 0, 0, 0, [])),
  (51, (25, 0, 0, 0, 0, 0, [])),
  (52, (64, 0, 0, 0, 0, 0, []))]
def e_J6_bitCount : Ev := (t_J6_bitCount, [], 1, 0, false, 0, fun _ => 0)
def s_J6_bitCount : Sp := spc e_J6_bitCount 1
theorem m_J6_bitCount : monoE e_J6_bitCount := monoE_of nil_all
theorem p_J6_bitCount : mono s_J6_bitCount := spc_mono m_J6_bitCount _
theorem k_J6_bitCount (l : Launch) : Con l y_J6_bitCount prog_13_method_49_code 1 (Option.some Jvm.ClassFile.FieldType.int) { frames := 0, cells := 0, slots := 0, locals := 0 } 1 0 s_J6_bitCount := con_of l e_J6_bitCount y_J6_bitCount prog_13_method_49_code 1 (Option.some Jvm.ClassFile.FieldType.int) _ (by decide +kernel) nil_all (Or.inl (by decide +kernel))
theorem f_J6_bitCount : calS y_J6_bitCount prog_13_method_49_code 1 (Option.some Jvm.ClassFile.FieldType.int) 1 := ⟨⟨mem_g (i := 340) (by decide +kernel) rfl, mg 36 (by decide +kernel)⟩, by decide +kernel, by decide +kernel, mg 339 (by decide +kernel)⟩
def y_X0_common : MethodName := ⟨"ActsPaid$Chances", "common", "(JJ)J"⟩
def t_X0_common : List (Nat × Ao) := [
  (0, (11, 0, 0, 0, 0, 0, [])),
  (1, (18, 0, 0, 4, 0, 0, [])),
  (3, (11, 0, 0, 2, 0, 0, [])),
  (4, (18, 0, 0, 6, 0, 0, [])),
  (6, (0, 0, 0, 0, 0, 0, [])),
  (7, (14, 0, 0, 8, 0, 0, [])),
  (9, (8, 0, 0, 8, 0, 0, [])),
  (11, (2, 1000, 0, 0, 0, 0, [])),
  (14, (50, 0, 0, 45, 0, 0, [])),
  (17, (12, 0, 0, 6, 0, 0, [])),
  (19, (5, 0, 0, 0, 0, 0, [])),
  (20, (35, 0, 0, 0, 0, 0, [])),
  (21, (41, 0, 0, 45, 0, 0, [])),
  (24, (12, 0, 0, 4, 0, 0, [])),
  (26, (12, 0, 0, 6, 0, 0, [])),
  (28, (34, 0, 0, 0, 0, 0, [])),
  (29, (18, 0, 0, 9, 0, 0, [])),
  (31, (12, 0, 0, 6, 0, 0, [])),
  (33, (18, 0, 0, 4, 0, 0, [])),
  (35, (12, 0, 0, 9, 0, 0, [])),
  (37, (18, 0, 0, 6, 0, 0, [])),
  (39, (39, 1, 0, 8, 0, 0, [])),
  (42, (40, 0, 0, 9, 0, 0, [])),
  (45, (12, 0, 0, 4, 0, 0, [])),
  (47, (65, 0, 0, 0, 0, 0, []))]
def e_X0_common : Ev := (t_X0_common, [], 2, 0, true, 0, fun _ => 0)
def s_X0_common : Sp := spc e_X0_common 11
theorem m_X0_common : monoE e_X0_common := monoE_of nil_all
theorem p_X0_common : mono s_X0_common := spc_mono m_X0_common _
theorem k_X0_common (l : Launch) : Con l y_X0_common prog_2_method_6_code 11 (Option.some Jvm.ClassFile.FieldType.long) { frames := 0, cells := 0, slots := 0, locals := 0 } 2 0 s_X0_common := con_of l e_X0_common y_X0_common prog_2_method_6_code 11 (Option.some Jvm.ClassFile.FieldType.long) _ (by decide +kernel) nil_all (Or.inl (by decide +kernel))
theorem f_X0_common : calS y_X0_common prog_2_method_6_code 11 (Option.some Jvm.ClassFile.FieldType.long) 2 := ⟨⟨mem_g (i := 629) (by decide +kernel) rfl, mg 33 (by decide +kernel)⟩, by decide +kernel, by decide +kernel, mg 628 (by decide +kernel)⟩
def y_X0_comesIn : MethodName := ⟨"ActsPaid$Chances", "comesIn", "(LActsPaid$Stage;III)J"⟩
def t_X0_comesIn : List (Nat × Ao) := [
  (0, (9, 0, 0, 0, 0, 0, [])),
  (1, (9, 0, 0, 1, 0, 0, [])),
  (2, (62, 0, 0, 31, 0, 0, [])),
  (5, (5, 0, 0, 0, 0, 0, [])),
  (6, (18, 0, 0, 5, 0, 0, [])),
  (8, (0, 0, 0, 0, 0, 0, [])),
  (9, (14, 0, 0, 7, 0, 0, [])),
  (11, (8, 0, 0, 7, 0, 0, [])),
  (13, (9, 0, 0, 1, 0, 0, [])),
  (14, (55, 0, 0, 35, 229, 108, [])),
  (17, (51, 0, 0, 60, 0, 0, [])),
  (20, (8, 0, 0, 7, 0, 0, [])),
  (22, (9, 0, 0, 1, 0, 0, [])),
  (23, (55, 0, 0, 35, 229, 108, [])),
  (26, (0, (-1), 0, 0, 0, 0, [])),
  (27, (27, 0, 0, 0, 0, 0, [])),
  (28, (25, 0, 0, 0, 0, 0, [])),
  (29, (42, 0, 0, 54, 0, 0, [])),
  (32, (9, 0, 0, 0, 0, 0, [])),
  (33, (8, 0, 0, 7, 0, 0, [])),
  (35, (62, 0, 0, 39, 0, 0, [])),
  (38, (7, 0, 0, 2, 0, 0, [])),
  (39, (49, 0, 0, 54, 0, 0, [])),
  (42, (12, 0, 0, 5, 0, 0, [])),
  (44, (9, 0, 0, 1, 0, 0, [])),
  (45, (8, 0, 0, 7, 0, 0, [])),
  (47, (7, 0, 0, 3, 0, 0, [])),
  (48, (63, 0, 0, 42, 0, 0, [])),
  (51, (31, 0, 0, 0, 0, 0, [])),
  (52, (18, 0, 0, 5, 0, 0, [])),
  (54, (39, 1, 0, 7, 0, 0, [])),
  (57, (40, 0, 0, 11, 0, 0, [])),
  (60, (5, 0, 1, 0, 0, 0, [])),
  (61, (18, 0, 0, 7, 0, 0, [])),
  (63, (0, 0, 0, 0, 0, 0, [])),
  (64, (14, 0, 0, 9, 0, 0, [])),
  (66, (8, 0, 0, 9, 0, 0, [])),
  (68, (9, 0, 0, 1, 0, 0, [])),
  (69, (55, 0, 0, 35, 229, 108, [])),
  (72, (63, 0, 0, 46, 0, 0, [])),
  (75, (50, 0, 0, 92, 0, 0, [])),
  (78, (12, 0, 0, 7, 0, 0, [])),
  (80, (6, 0, 10, 51, 0, 626, [])),
  (83, (32, 0, 0, 0, 0, 0, [])),
  (84, (18, 0, 0, 7, 0, 0, [])),
  (86, (39, 1, 0, 9, 0, 0, [])),
  (89, (40, 0, 0, 66, 0, 0, [])),
  (92, (12, 0, 0, 5, 0, 0, [])),
  (94, (12, 0, 0, 7, 0, 0, [])),
  (96, (63, 0, 0, 53, 0, 0, [])),
  (99, (18, 0, 0, 9, 0, 0, [])),
  (101, (8, 0, 0, 4, 0, 0, [])),
  (103, (42, 0, 0, 111, 0, 0, [])),
  (106, (12, 0, 0, 5, 0, 0, [])),
  (108, (40, 0, 0, 113, 0, 0, [])),
  (111, (12, 0, 0, 7, 0, 0, [])),
  (113, (18, 0, 0, 11, 0, 0, [])),
  (115, (12, 0, 0, 9, 0, 0, [])),
  (117, (5, 0, 0, 0, 0, 0, [])),
  (118, (35, 0, 0, 0, 0, 0, [])),
  (119, (46, 0, 0, 130, 0, 0, [])),
  (122, (12, 0, 0, 11, 0, 0, [])),
  (124, (12, 0, 0, 9, 0, 0, [])),
  (126, (33, 0, 0, 0, 0, 0, [])),
  (127, (40, 0, 0, 132, 0, 0, [])),
  (130, (12, 0, 0, 11, 0, 0, [])),
  (132, (65, 0, 0, 0, 0, 0, []))]
def e_X0_comesIn : Ev := (t_X0_comesIn, [(31, (2, 0, 0, 1, s_X0_readPayments)), (39, (2, 1, 0, 1, s_X0_paidBy)), (42, (3, 2, 0, 0, s_X0_waysOf)), (46, (1, 1, 0, 0, s_J6_bitCount)), (53, (2, 2, 0, 0, s_X0_common))], 2, 0, true, 0, fun _ => 0)
def s_X0_comesIn : Sp := spc e_X0_comesIn 13
theorem m_X0_comesIn : monoE e_X0_comesIn := monoE_of (cons_all (p_X0_readPayments) (cons_all (p_X0_paidBy) (cons_all (p_X0_waysOf) (cons_all (p_J6_bitCount) (cons_all (p_X0_common) nil_all)))))
theorem p_X0_comesIn : mono s_X0_comesIn := spc_mono m_X0_comesIn _
theorem k_X0_comesIn (l : Launch) : Con l y_X0_comesIn prog_2_method_4_code 13 (Option.some Jvm.ClassFile.FieldType.long) { frames := 5, cells := 0, slots := 0, locals := 112 } 2 0 s_X0_comesIn := con_of l e_X0_comesIn y_X0_comesIn prog_2_method_4_code 13 (Option.some Jvm.ClassFile.FieldType.long) _ (by decide +kernel) (cons_all (clV (k_X0_readPayments l) f_X0_readPayments ⟨rfl, rfl, Nat.le_of_ble_eq_true rfl, Nat.le_of_ble_eq_true rfl⟩ (mg 610 (by decide +kernel))) (cons_all (clV (k_X0_paidBy l) f_X0_paidBy ⟨rfl, rfl, Nat.le_of_ble_eq_true rfl, Nat.le_of_ble_eq_true rfl⟩ (mg 616 (by decide +kernel))) (cons_all (clS (k_X0_waysOf l) f_X0_waysOf ⟨rfl, rfl, Nat.le_of_ble_eq_true rfl, Nat.le_of_ble_eq_true rfl⟩ (mg 621 (by decide +kernel))) (cons_all (clS (k_J6_bitCount l) f_J6_bitCount ⟨rfl, rfl, Nat.le_of_ble_eq_true rfl, Nat.le_of_ble_eq_true rfl⟩ (mg 625 (by decide +kernel))) (cons_all (clS (k_X0_common l) f_X0_common ⟨rfl, rfl, Nat.le_of_ble_eq_true rfl, Nat.le_of_ble_eq_true rfl⟩ (mg 627 (by decide +kernel))) nil_all))))) (Or.inl (by decide +kernel))
theorem f_X0_comesIn : calV y_X0_comesIn prog_2_method_4_code 13 (Option.some Jvm.ClassFile.FieldType.long) 5 0 := ⟨⟨mem_g (i := 609) (by decide +kernel) rfl, mg 33 (by decide +kernel)⟩, by decide +kernel, by decide +kernel, by decide, mg 607 (by decide +kernel), mg 608 (by decide +kernel), _, rfl, rfl⟩
def y_X0_evenings : MethodName := ⟨"ActsPaid$Chances", "evenings", "(LActsPaid$Stage;III)I"⟩
def t_X0_evenings : List (Nat × Ao) := [
  (0, (9, 0, 0, 0, 0, 0, [])),
  (1, (9, 0, 0, 1, 0, 0, [])),
  (2, (62, 0, 0, 31, 0, 0, [])),
  (5, (7, 0, 0, 2, 0, 0, [])),
  (6, (14, 0, 0, 5, 0, 0, [])),
  (8, (0, 0, 0, 0, 0, 0, [])),
  (9, (14, 0, 0, 6, 0, 0, [])),
  (11, (0, 0, 0, 0, 0, 0, [])),
  (12, (14, 0, 0, 7, 0, 0, [])),
  (14, (0, 0, 0, 0, 0, 0, [])),
  (15, (14, 0, 0, 8, 0, 0, [])),
  (17, (8, 0, 0, 8, 0, 0, [])),
  (19, (7, 0, 0, 3, 0, 0, [])),
  (20, (50, 0, 0, 70, 0, 0, [])),
  (23, (1, 75, 0, 0, 0, 0, [])),
  (25, (8, 0, 0, 5, 0, 0, [])),
  (27, (21, 0, 0, 0, 0, 0, [])),
  (28, (1, 74, 0, 0, 0, 0, [])),
  (30, (19, 0, 0, 0, 0, 0, [])),
  (31, (3, 65537, 0, 61, 0, 638, [])),
  (33, (23, 0, 0, 0, 0, 0, [])),
  (34, (14, 0, 0, 5, 0, 0, [])),
  (36, (9, 0, 0, 0, 0, 0, [])),
  (37, (8, 0, 0, 5, 0, 0, [])),
  (39, (2, 256, 0, 0, 0, 0, [])),
  (42, (23, 0, 0, 0, 0, 0, [])),
  (43, (62, 0, 0, 39, 0, 0, [])),
  (46, (14, 0, 0, 9, 0, 0, [])),
  (48, (8, 0, 0, 6, 0, 0, [])),
  (50, (8, 0, 0, 9, 0, 0, [])),
  (52, (19, 0, 0, 0, 0, 0, [])),
  (53, (14, 0, 0, 6, 0, 0, [])),
  (55, (8, 0, 0, 7, 0, 0, [])),
  (57, (8, 0, 0, 9, 0, 0, [])),
  (59, (71, 0, 0, 62, 0, 639, [])),
  (62, (14, 0, 0, 7, 0, 0, [])),
  (64, (39, 1, 0, 8, 0, 0, [])),
  (67, (40, 0, 0, 17, 0, 0, [])),
  (70, (8, 0, 0, 4, 0, 0, [])),
  (72, (42, 0, 0, 80, 0, 0, [])),
  (75, (8, 0, 0, 6, 0, 0, [])),
  (77, (40, 0, 0, 82, 0, 0, [])),
  (80, (8, 0, 0, 7, 0, 0, [])),
  (82, (64, 0, 0, 0, 0, 0, []))]
def e_X0_evenings : Ev := (t_X0_evenings, [(31, (2, 0, 0, 1, s_X0_readPayments)), (39, (2, 1, 0, 1, s_X0_paidBy))], 1, 0, false, 0, fun _ => 0)
def s_X0_evenings : Sp := spc e_X0_evenings 10
theorem m_X0_evenings : monoE e_X0_evenings := monoE_of (cons_all (p_X0_readPayments) (cons_all (p_X0_paidBy) nil_all))
theorem p_X0_evenings : mono s_X0_evenings := spc_mono m_X0_evenings _
theorem k_X0_evenings (l : Launch) : Con l y_X0_evenings prog_2_method_7_code 10 (Option.some Jvm.ClassFile.FieldType.int) { frames := 5, cells := 0, slots := 0, locals := 112 } 1 0 s_X0_evenings := con_of l e_X0_evenings y_X0_evenings prog_2_method_7_code 10 (Option.some Jvm.ClassFile.FieldType.int) _ (by decide +kernel) (cons_all (clV (k_X0_readPayments l) f_X0_readPayments ⟨rfl, rfl, Nat.le_of_ble_eq_true rfl, Nat.le_of_ble_eq_true rfl⟩ (mg 610 (by decide +kernel))) (cons_all (clV (k_X0_paidBy l) f_X0_paidBy ⟨rfl, rfl, Nat.le_of_ble_eq_true rfl, Nat.le_of_ble_eq_true rfl⟩ (mg 616 (by decide +kernel))) nil_all)) (Or.inr (by decide))
theorem f_X0_evenings : calV y_X0_evenings prog_2_method_7_code 10 (Option.some Jvm.ClassFile.FieldType.int) 5 0 := ⟨⟨mem_g (i := 637) (by decide +kernel) rfl, mg 33 (by decide +kernel)⟩, by decide +kernel, by decide +kernel, by decide, mg 635 (by decide +kernel), mg 636 (by decide +kernel), _, rfl, rfl⟩
def y_X1_send : MethodName := ⟨"ActsPaid$Houses", "send", "(LActsPaid$Stage;I)V"⟩
def t_X1_send : List (Nat × Ao) := [
  (0, (0, 0, 0, 0, 0, 0, [])),
  (1, (13, 0, 0, 3, 0, 0, [])),
  (2, (0, 0, 0, 0, 0, 0, [])),
  (3, (14, 0, 0, 4, 0, 0, [])),
  (5, (9, 0, 0, 0, 0, 0, [])),
  (6, (0, 0, 0, 0, 0, 0, [])),
  (7, (56, 0, 0, 18, 32, 193, [])),
  (10, (9, 0, 0, 0, 0, 0, [])),
  (11, (0, 0, 0, 0, 0, 0, [])),
  (12, (56, 0, 0, 22, 33, 195, [])),
  (15, (0, 0, 0, 0, 0, 0, [])),
  (16, (14, 0, 0, 5, 0, 0, [])),
  (18, (8, 0, 0, 5, 0, 0, [])),
  (20, (9, 0, 0, 1, 0, 0, [])),
  (21, (55, 0, 0, 25, 224, 90, [])),
  (24, (51, 0, 0, 132, 0, 0, [])),
  (27, (8, 0, 0, 4, 0, 0, [])),
  (29, (14, 0, 0, 6, 0, 0, [])),
  (31, (8, 0, 0, 5, 0, 0, [])),
  (33, (14, 0, 0, 7, 0, 0, [])),
  (35, (8, 0, 0, 7, 0, 0, [])),
  (37, (9, 0, 0, 1, 0, 0, [])),
  (38, (55, 0, 0, 25, 224, 90, [])),
  (41, (51, 0, 0, 101, 0, 0, [])),
  (44, (8, 0, 0, 6, 0, 0, [])),
  (46, (7, 0, 0, 3, 0, 0, [])),
  (47, (52, 0, 0, 65, 0, 0, [])),
  (50, (8, 0, 0, 6, 0, 0, [])),
  (52, (13, 0, 0, 3, 0, 0, [])),
  (53, (9, 0, 0, 0, 0, 0, [])),
  (54, (8, 0, 0, 5, 0, 0, [])),
  (56, (56, 0, 0, 18, 32, 193, [])),
  (59, (9, 0, 0, 0, 0, 0, [])),
  (60, (8, 0, 0, 7, 0, 0, [])),
  (62, (56, 0, 0, 22, 33, 195, [])),
  (65, (8, 0, 0, 6, 0, 0, [])),
  (67, (9, 0, 0, 1, 0, 0, [])),
  (68, (55, 0, 0, 30, 232, 115, [])),
  (71, (8, 0, 0, 7, 0, 0, [])),
  (73, (63, 0, 0, 33, 0, 0, [])),
  (76, (9, 0, 0, 1, 0, 0, [])),
  (77, (55, 0, 0, 39, 228, 104, [])),
  (80, (20, 0, 0, 0, 0, 0, [])),
  (81, (8, 0, 0, 7, 0, 0, [])),
  (83, (8, 0, 0, 5, 0, 0, [])),
  (85, (20, 0, 0, 0, 0, 0, [])),
  (86, (9, 0, 0, 1, 0, 0, [])),
  (87, (55, 0, 0, 42, 226, 99, [])),
  (90, (21, 0, 0, 0, 0, 0, [])),
  (91, (20, 0, 0, 0, 0, 0, [])),
  (92, (19, 0, 0, 0, 0, 0, [])),
  (93, (14, 0, 0, 6, 0, 0, [])),
  (95, (39, 1, 0, 7, 0, 0, [])),
  (98, (40, 0, 0, 35, 0, 0, [])),
  (101, (8, 0, 0, 4, 0, 0, [])),
  (103, (9, 0, 0, 1, 0, 0, [])),
  (104, (7, 0, 0, 2, 0, 0, [])),
  (105, (8, 0, 0, 5, 0, 0, [])),
  (107, (62, 0, 0, 45, 0, 0, [])),
  (110, (9, 0, 0, 1, 0, 0, [])),
  (111, (55, 0, 0, 49, 225, 94, [])),
  (114, (20, 0, 0, 0, 0, 0, [])),
  (115, (8, 0, 0, 5, 0, 0, [])),
  (117, (9, 0, 0, 1, 0, 0, [])),
  (118, (55, 0, 0, 42, 226, 99, [])),
  (121, (21, 0, 0, 0, 0, 0, [])),
  (122, (20, 0, 0, 0, 0, 0, [])),
  (123, (19, 0, 0, 0, 0, 0, [])),
  (124, (14, 0, 0, 4, 0, 0, [])),
  (126, (39, 1, 0, 5, 0, 0, [])),
  (129, (40, 0, 0, 18, 0, 0, [])),
  (132, (66, 0, 0, 0, 0, 0, []))]
def e_X1_send : Ev := (t_X1_send, [(33, (2, 1, 0, 0, s_X5_at)), (45, (3, 1, 0, 8, s_X8_worthPlayed))], 0, 0, false, 0, fun _ => 0)
def s_X1_send : Sp := spc e_X1_send 8
theorem m_X1_send : monoE e_X1_send := monoE_of (cons_all (p_X5_at) (cons_all (p_X8_worthPlayed) nil_all))
theorem p_X1_send : mono s_X1_send := spc_mono m_X1_send _
theorem k_X1_send (l : Launch) : Con l y_X1_send prog_3_method_2_code 8 (Option.none : Option Jvm.ClassFile.FieldType) { frames := 2, cells := 0, slots := 0, locals := 43 } 0 0 s_X1_send := con_of l e_X1_send y_X1_send prog_3_method_2_code 8 (Option.none : Option Jvm.ClassFile.FieldType) _ (by decide +kernel) (cons_all (clS (k_X5_at l) f_X5_at ⟨rfl, rfl, Nat.le_of_ble_eq_true rfl, Nat.le_of_ble_eq_true rfl⟩ (mg 547 (by decide +kernel))) (cons_all (clV (k_X8_worthPlayed l) f_X8_worthPlayed ⟨rfl, rfl, Nat.le_of_ble_eq_true rfl, Nat.le_of_ble_eq_true rfl⟩ (mg 548 (by decide +kernel))) nil_all)) (Or.inl (by decide +kernel))
theorem f_X1_send : calV y_X1_send prog_3_method_2_code 8 (Option.none : Option Jvm.ClassFile.FieldType) 3 1 := ⟨⟨mem_g (i := 546) (by decide +kernel) rfl, mg 32 (by decide +kernel)⟩, by decide +kernel, by decide +kernel, by decide, mg 544 (by decide +kernel), mg 545 (by decide +kernel), _, rfl, rfl⟩
def y_X1_sendAll : MethodName := ⟨"ActsPaid$Houses", "sendAll", "(LActsPaid$Stage;)V"⟩
def t_X1_sendAll : List (Nat × Ao) := [
  (0, (9, 0, 0, 0, 0, 0, [])),
  (1, (0, 0, 0, 0, 0, 0, [])),
  (2, (56, 0, 0, 52, 34, 197, [])),
  (5, (9, 0, 0, 0, 0, 0, [])),
  (6, (0, 0, 0, 0, 0, 0, [])),
  (7, (56, 0, 0, 55, 35, 199, [])),
  (10, (0, 0, 0, 0, 0, 0, [])),
  (11, (13, 0, 0, 2, 0, 0, [])),
  (12, (7, 0, 0, 2, 0, 0, [])),
  (13, (1, 8, 0, 0, 0, 0, [])),
  (15, (50, 0, 0, 85, 0, 0, [])),
  (18, (9, 0, 0, 1, 0, 0, [])),
  (19, (7, 0, 0, 2, 0, 0, [])),
  (20, (62, 0, 0, 58, 0, 0, [])),
  (23, (41, 0, 0, 79, 0, 0, [])),
  (26, (9, 0, 0, 0, 0, 0, [])),
  (27, (9, 0, 0, 1, 0, 0, [])),
  (28, (7, 0, 0, 2, 0, 0, [])),
  (29, (62, 0, 0, 62, 0, 0, [])),
  (32, (9, 0, 0, 0, 0, 0, [])),
  (33, (37, 0, 0, 0, 0, 0, [])),
  (34, (55, 0, 0, 52, 34, 197, [])),
  (37, (9, 0, 0, 1, 0, 0, [])),
  (38, (9, 0, 0, 1, 0, 0, [])),
  (39, (55, 0, 0, 49, 225, 94, [])),
  (42, (9, 0, 0, 0, 0, 0, [])),
  (43, (55, 0, 0, 18, 32, 193, [])),
  (46, (62, 0, 0, 66, 0, 0, [])),
  (49, (19, 0, 0, 0, 0, 0, [])),
  (50, (56, 0, 0, 52, 34, 197, [])),
  (53, (9, 0, 0, 0, 0, 0, [])),
  (54, (37, 0, 0, 0, 0, 0, [])),
  (55, (55, 0, 0, 55, 35, 199, [])),
  (58, (9, 0, 0, 1, 0, 0, [])),
  (59, (9, 0, 0, 1, 0, 0, [])),
  (60, (55, 0, 0, 39, 228, 104, [])),
  (63, (9, 0, 0, 0, 0, 0, [])),
  (64, (55, 0, 0, 22, 33, 195, [])),
  (67, (9, 0, 0, 0, 0, 0, [])),
  (68, (55, 0, 0, 18, 32, 193, [])),
  (71, (20, 0, 0, 0, 0, 0, [])),
  (72, (62, 0, 0, 66, 0, 0, [])),
  (75, (19, 0, 0, 0, 0, 0, [])),
  (76, (56, 0, 0, 55, 35, 199, [])),
  (79, (39, 1, 0, 2, 0, 0, [])),
  (82, (40, 0, 0, 12, 0, 0, [])),
  (85, (66, 0, 0, 0, 0, 0, []))]
def e_X1_sendAll : Ev := (t_X1_sendAll, [(58, (2, 1, 0, 8, s_X8_comes)), (62, (3, 0, 0, 2, s_X1_send)), (66, (3, 1, 0, 8, s_X8_price))], 0, 0, false, 0, fun _ => 0)
def s_X1_sendAll : Sp := spc e_X1_sendAll 3
theorem m_X1_sendAll : monoE e_X1_sendAll := monoE_of (cons_all (p_X8_comes) (cons_all (p_X1_send) (cons_all (p_X8_price) nil_all)))
theorem p_X1_sendAll : mono s_X1_sendAll := spc_mono m_X1_sendAll _
theorem k_X1_sendAll (l : Launch) : Con l y_X1_sendAll prog_3_method_3_code 3 (Option.none : Option Jvm.ClassFile.FieldType) { frames := 3, cells := 0, slots := 0, locals := 70 } 0 0 s_X1_sendAll := con_of l e_X1_sendAll y_X1_sendAll prog_3_method_3_code 3 (Option.none : Option Jvm.ClassFile.FieldType) _ (by decide +kernel) (cons_all (clV (k_X8_comes l) f_X8_comes ⟨rfl, rfl, Nat.le_of_ble_eq_true rfl, Nat.le_of_ble_eq_true rfl⟩ (mg 557 (by decide +kernel))) (cons_all (clV (k_X1_send l) f_X1_send ⟨rfl, rfl, Nat.le_of_ble_eq_true rfl, Nat.le_of_ble_eq_true rfl⟩ (mg 558 (by decide +kernel))) (cons_all (clV (k_X8_price l) f_X8_price ⟨rfl, rfl, Nat.le_of_ble_eq_true rfl, Nat.le_of_ble_eq_true rfl⟩ (mg 559 (by decide +kernel))) nil_all))) (Or.inl (by decide +kernel))
theorem f_X1_sendAll : calV y_X1_sendAll prog_3_method_3_code 3 (Option.none : Option Jvm.ClassFile.FieldType) 2 1 := ⟨⟨mem_g (i := 556) (by decide +kernel) rfl, mg 32 (by decide +kernel)⟩, by decide +kernel, by decide +kernel, by decide, mg 554 (by decide +kernel), mg 555 (by decide +kernel), _, rfl, rfl⟩
def y_X1_bothRest : MethodName := ⟨"ActsPaid$Houses", "bothRest", "(I)Z"⟩
def t_X1_bothRest : List (Nat × Ao) := [
  (0, (7, 0, 0, 1, 0, 0, [])),
  (1, (1, 10, 0, 0, 0, 0, [])),
  (3, (22, 0, 0, 0, 0, 0, [])),
  (4, (13, 0, 0, 2, 0, 0, [])),
  (5, (7, 0, 0, 1, 0, 0, [])),
  (6, (1, 10, 0, 0, 0, 0, [])),
  (8, (23, 0, 0, 0, 0, 0, [])),
  (9, (13, 0, 0, 3, 0, 0, [])),
  (10, (0, 0, 0, 0, 0, 0, [])),
  (11, (14, 0, 0, 4, 0, 0, [])),
  (13, (8, 0, 0, 4, 0, 0, [])),
  (15, (1, 10, 0, 0, 0, 0, [])),
  (17, (50, 0, 0, 102, 0, 0, [])),
  (20, (9, 0, 0, 0, 0, 0, [])),
  (21, (55, 0, 0, 11, 36, 201, [])),
  (24, (8, 0, 0, 4, 0, 0, [])),
  (26, (1, 10, 0, 0, 0, 0, [])),
  (28, (21, 0, 0, 0, 0, 0, [])),
  (29, (7, 0, 0, 3, 0, 0, [])),
  (30, (19, 0, 0, 0, 0, 0, [])),
  (31, (63, 0, 0, 33, 0, 0, [])),
  (34, (9, 0, 0, 0, 0, 0, [])),
  (35, (55, 0, 0, 11, 36, 201, [])),
  (38, (7, 0, 0, 1, 0, 0, [])),
  (39, (63, 0, 0, 33, 0, 0, [])),
  (42, (52, 0, 0, 49, 0, 0, [])),
  (45, (0, 1, 0, 0, 0, 0, [])),
  (46, (40, 0, 0, 50, 0, 0, [])),
  (49, (0, 0, 0, 0, 0, 0, [])),
  (50, (14, 0, 0, 5, 0, 0, [])),
  (52, (9, 0, 0, 0, 0, 0, [])),
  (53, (55, 0, 0, 15, 37, 202, [])),
  (56, (7, 0, 0, 2, 0, 0, [])),
  (57, (1, 10, 0, 0, 0, 0, [])),
  (59, (21, 0, 0, 0, 0, 0, [])),
  (60, (8, 0, 0, 4, 0, 0, [])),
  (62, (19, 0, 0, 0, 0, 0, [])),
  (63, (63, 0, 0, 33, 0, 0, [])),
  (66, (9, 0, 0, 0, 0, 0, [])),
  (67, (55, 0, 0, 15, 37, 202, [])),
  (70, (7, 0, 0, 1, 0, 0, [])),
  (71, (63, 0, 0, 33, 0, 0, [])),
  (74, (52, 0, 0, 81, 0, 0, [])),
  (77, (0, 1, 0, 0, 0, 0, [])),
  (78, (40, 0, 0, 82, 0, 0, [])),
  (81, (0, 0, 0, 0, 0, 0, [])),
  (82, (14, 0, 0, 6, 0, 0, [])),
  (84, (8, 0, 0, 5, 0, 0, [])),
  (86, (42, 0, 0, 94, 0, 0, [])),
  (89, (8, 0, 0, 6, 0, 0, [])),
  (91, (41, 0, 0, 96, 0, 0, [])),
  (94, (0, 0, 0, 0, 0, 0, [])),
  (95, (64, 0, 0, 0, 0, 0, [])),
  (96, (39, 1, 0, 4, 0, 0, [])),
  (99, (40, 0, 0, 13, 0, 0, [])),
  (102, (0, 1, 0, 0, 0, 0, [])),
  (103, (64, 0, 0, 0, 0, 0, []))]
def e_X1_bothRest : Ev := (t_X1_bothRest, [(33, (2, 1, 0, 0, s_X5_at))], 4, 0, false, 0, fun _ => 0)
def s_X1_bothRest : Sp := spc e_X1_bothRest 7
theorem m_X1_bothRest : monoE e_X1_bothRest := monoE_of (cons_all (p_X5_at) nil_all)
theorem p_X1_bothRest : mono s_X1_bothRest := spc_mono m_X1_bothRest _
theorem k_X1_bothRest (l : Launch) : Con l y_X1_bothRest prog_3_method_5_code 7 (Option.some Jvm.ClassFile.FieldType.boolean) { frames := 1, cells := 0, slots := 0, locals := 21 } 1 0 s_X1_bothRest := con_of l e_X1_bothRest y_X1_bothRest prog_3_method_5_code 7 (Option.some Jvm.ClassFile.FieldType.boolean) _ (by decide +kernel) (cons_all (clS (k_X5_at l) f_X5_at ⟨rfl, rfl, Nat.le_of_ble_eq_true rfl, Nat.le_of_ble_eq_true rfl⟩ (mg 547 (by decide +kernel))) nil_all) (Or.inl (by decide +kernel))
theorem f_X1_bothRest : calV y_X1_bothRest prog_3_method_5_code 7 (Option.some Jvm.ClassFile.FieldType.boolean) 2 1 := ⟨⟨mem_g (i := 573) (by decide +kernel) rfl, mg 32 (by decide +kernel)⟩, by decide +kernel, by decide +kernel, by decide, mg 571 (by decide +kernel), mg 572 (by decide +kernel), _, rfl, rfl⟩
def y_X1_restingBases : MethodName := ⟨"ActsPaid$Houses", "restingBases", "(LActsPaid$Stage;I)I"⟩
def t_X1_restingBases : List (Nat × Ao) := [
  (0, (0, 0, 0, 0, 0, 0, [])),
  (1, (13, 0, 0, 3, 0, 0, [])),
  (2, (7, 0, 0, 3, 0, 0, [])),
  (3, (1, 100, 0, 0, 0, 0, [])),
  (5, (50, 0, 0, 59, 0, 0, [])),
  (8, (9, 0, 0, 1, 0, 0, [])),
  (9, (7, 0, 0, 3, 0, 0, [])),
  (10, (1, 10, 0, 0, 0, 0, [])),
  (12, (22, 0, 0, 0, 0, 0, [])),
  (13, (56, 0, 0, 49, 225, 94, [])),
  (16, (9, 0, 0, 1, 0, 0, [])),
  (17, (7, 0, 0, 3, 0, 0, [])),
  (18, (1, 10, 0, 0, 0, 0, [])),
  (20, (23, 0, 0, 0, 0, 0, [])),
  (21, (56, 0, 0, 39, 228, 104, [])),
  (24, (9, 0, 0, 0, 0, 0, [])),
  (25, (9, 0, 0, 1, 0, 0, [])),
  (26, (62, 0, 0, 69, 0, 0, [])),
  (29, (9, 0, 0, 0, 0, 0, [])),
  (30, (55, 0, 0, 11, 36, 201, [])),
  (33, (7, 0, 0, 3, 0, 0, [])),
  (34, (9, 0, 0, 0, 0, 0, [])),
  (35, (55, 0, 0, 52, 34, 197, [])),
  (38, (63, 0, 0, 73, 0, 0, [])),
  (41, (9, 0, 0, 0, 0, 0, [])),
  (42, (55, 0, 0, 15, 37, 202, [])),
  (45, (7, 0, 0, 3, 0, 0, [])),
  (46, (9, 0, 0, 0, 0, 0, [])),
  (47, (55, 0, 0, 55, 35, 199, [])),
  (50, (63, 0, 0, 73, 0, 0, [])),
  (53, (39, 1, 0, 3, 0, 0, [])),
  (56, (40, 0, 0, 2, 0, 0, [])),
  (59, (0, 0, 0, 0, 0, 0, [])),
  (60, (13, 0, 0, 3, 0, 0, [])),
  (61, (0, 0, 0, 0, 0, 0, [])),
  (62, (14, 0, 0, 4, 0, 0, [])),
  (64, (8, 0, 0, 4, 0, 0, [])),
  (66, (1, 100, 0, 0, 0, 0, [])),
  (68, (50, 0, 0, 97, 0, 0, [])),
  (71, (9, 0, 0, 0, 0, 0, [])),
  (72, (8, 0, 0, 4, 0, 0, [])),
  (74, (62, 0, 0, 77, 0, 0, [])),
  (77, (41, 0, 0, 91, 0, 0, [])),
  (80, (7, 0, 0, 3, 0, 0, [])),
  (81, (7, 0, 0, 2, 0, 0, [])),
  (82, (48, 0, 0, 88, 0, 0, [])),
  (85, (8, 0, 0, 4, 0, 0, [])),
  (87, (64, 0, 0, 0, 0, 0, [])),
  (88, (39, 1, 0, 3, 0, 0, [])),
  (91, (39, 1, 0, 4, 0, 0, [])),
  (94, (40, 0, 0, 64, 0, 0, [])),
  (97, (7, 0, 0, 2, 0, 0, [])),
  (98, (0, (-1), 0, 0, 0, 0, [])),
  (99, (48, 0, 0, 106, 0, 0, [])),
  (102, (7, 0, 0, 3, 0, 0, [])),
  (103, (40, 0, 0, 108, 0, 0, [])),
  (106, (1, (-6), 0, 0, 0, 0, [])),
  (108, (64, 0, 0, 0, 0, 0, []))]
def e_X1_restingBases : Ev := (t_X1_restingBases, [(69, (2, 0, 0, 2, s_X1_sendAll)), (73, (3, 0, 0, 0, s_X5_put)), (77, (2, 1, 0, 2, s_X1_bothRest))], 1, 0, false, 0, fun _ => 0)
def s_X1_restingBases : Sp := spc e_X1_restingBases 5
theorem m_X1_restingBases : monoE e_X1_restingBases := monoE_of (cons_all (p_X1_sendAll) (cons_all (p_X5_put) (cons_all (p_X1_bothRest) nil_all)))
theorem p_X1_restingBases : mono s_X1_restingBases := spc_mono m_X1_restingBases _
theorem k_X1_restingBases (l : Launch) : Con l y_X1_restingBases prog_3_method_4_code 5 (Option.some Jvm.ClassFile.FieldType.int) { frames := 4, cells := 0, slots := 0, locals := 92 } 1 0 s_X1_restingBases := con_of l e_X1_restingBases y_X1_restingBases prog_3_method_4_code 5 (Option.some Jvm.ClassFile.FieldType.int) _ (by decide +kernel) (cons_all (clV (k_X1_sendAll l) f_X1_sendAll ⟨rfl, rfl, Nat.le_of_ble_eq_true rfl, Nat.le_of_ble_eq_true rfl⟩ (mg 568 (by decide +kernel))) (cons_all (clS (k_X5_put l) f_X5_put ⟨rfl, rfl, Nat.le_of_ble_eq_true rfl, Nat.le_of_ble_eq_true rfl⟩ (mg 569 (by decide +kernel))) (cons_all (clV (k_X1_bothRest l) f_X1_bothRest ⟨rfl, rfl, Nat.le_of_ble_eq_true rfl, Nat.le_of_ble_eq_true rfl⟩ (mg 570 (by decide +kernel))) nil_all))) (Or.inl (by decide +kernel))
theorem f_X1_restingBases : calV y_X1_restingBases prog_3_method_4_code 5 (Option.some Jvm.ClassFile.FieldType.int) 3 1 := ⟨⟨mem_g (i := 567) (by decide +kernel) rfl, mg 32 (by decide +kernel)⟩, by decide +kernel, by decide +kernel, by decide, mg 565 (by decide +kernel), mg 566 (by decide +kernel), _, rfl, rfl⟩
def y_X3_add : MethodName := ⟨"ActsPaid$Pad", "add", "(I)Z"⟩
def t_X3_add : List (Nat × Ao) := [
  (0, (9, 0, 0, 0, 0, 0, [])),
  (1, (55, 0, 0, 15, 97, 53, [])),
  (4, (1, 48, 0, 0, 0, 0, [])),
  (6, (49, 0, 0, 11, 0, 0, [])),
  (9, (0, 0, 0, 0, 0, 0, [])),
  (10, (64, 0, 0, 0, 0, 0, [])),
  (11, (9, 0, 0, 0, 0, 0, [])),
  (12, (55, 0, 0, 9, 96, 52, [])),
  (15, (9, 0, 0, 0, 0, 0, [])),
  (16, (55, 0, 0, 15, 97, 53, [])),
  (19, (7, 0, 0, 1, 0, 0, [])),
  (20, (63, 0, 0, 19, 0, 0, [])),
  (23, (9, 0, 0, 0, 0, 0, [])),
  (24, (37, 0, 0, 0, 0, 0, [])),
  (25, (55, 0, 0, 15, 97, 53, [])),
  (28, (0, 1, 0, 0, 0, 0, [])),
  (29, (19, 0, 0, 0, 0, 0, [])),
  (30, (56, 0, 0, 15, 97, 53, [])),
  (33, (0, 1, 0, 0, 0, 0, [])),
  (34, (64, 0, 0, 0, 0, 0, []))]
def e_X3_add : Ev := (t_X3_add, [(19, (3, 0, 0, 0, s_X5_put))], 4, 0, false, 0, fun _ => 0)
def s_X3_add : Sp := spc e_X3_add 2
theorem m_X3_add : monoE e_X3_add := monoE_of (cons_all (p_X5_put) nil_all)
theorem p_X3_add : mono s_X3_add := spc_mono m_X3_add _
theorem k_X3_add (l : Launch) : Con l y_X3_add prog_5_method_2_code 2 (Option.some Jvm.ClassFile.FieldType.boolean) { frames := 1, cells := 0, slots := 0, locals := 22 } 1 0 s_X3_add := con_of l e_X3_add y_X3_add prog_5_method_2_code 2 (Option.some Jvm.ClassFile.FieldType.boolean) _ (by decide +kernel) (cons_all (clS (k_X5_put l) f_X5_put ⟨rfl, rfl, Nat.le_of_ble_eq_true rfl, Nat.le_of_ble_eq_true rfl⟩ (mg 295 (by decide +kernel))) nil_all) (Or.inl (by decide +kernel))
theorem f_X3_add : calV y_X3_add prog_5_method_2_code 2 (Option.some Jvm.ClassFile.FieldType.boolean) 2 3 := ⟨⟨mem_g (i := 294) (by decide +kernel) rfl, mg 26 (by decide +kernel)⟩, by decide +kernel, by decide +kernel, by decide, mg 292 (by decide +kernel), mg 293 (by decide +kernel), _, rfl, rfl⟩
def y_X3_sign : MethodName := ⟨"ActsPaid$Pad", "sign", "(I)I"⟩
def t_X3_sign : List (Nat × Ao) := [
  (0, (9, 0, 0, 0, 0, 0, [])),
  (1, (55, 0, 0, 9, 96, 52, [])),
  (4, (7, 0, 0, 1, 0, 0, [])),
  (5, (63, 0, 0, 25, 0, 0, [])),
  (8, (64, 0, 0, 0, 0, 0, []))]
def e_X3_sign : Ev := (t_X3_sign, [(25, (2, 1, 0, 0, s_X5_at))], 1, 0, false, 0, fun _ => 0)
def s_X3_sign : Sp := spc e_X3_sign 2
theorem m_X3_sign : monoE e_X3_sign := monoE_of (cons_all (p_X5_at) nil_all)
theorem p_X3_sign : mono s_X3_sign := spc_mono m_X3_sign _
theorem k_X3_sign (l : Launch) : Con l y_X3_sign prog_5_method_3_code 2 (Option.some Jvm.ClassFile.FieldType.int) { frames := 1, cells := 0, slots := 0, locals := 21 } 1 0 s_X3_sign := con_of l e_X3_sign y_X3_sign prog_5_method_3_code 2 (Option.some Jvm.ClassFile.FieldType.int) _ (by decide +kernel) (cons_all (clS (k_X5_at l) f_X5_at ⟨rfl, rfl, Nat.le_of_ble_eq_true rfl, Nat.le_of_ble_eq_true rfl⟩ (mg 312 (by decide +kernel))) nil_all) (Or.inl (by decide +kernel))
theorem f_X3_sign : calV y_X3_sign prog_5_method_3_code 2 (Option.some Jvm.ClassFile.FieldType.int) 2 3 := ⟨⟨mem_g (i := 311) (by decide +kernel) rfl, mg 26 (by decide +kernel)⟩, by decide +kernel, by decide +kernel, by decide, mg 309 (by decide +kernel), mg 310 (by decide +kernel), _, rfl, rfl⟩
def y_X3_tellsWorth : MethodName := ⟨"ActsPaid$Pad", "tellsWorth", "(I)Z"⟩
def t_X3_tellsWorth : List (Nat × Ao) := [
  (0, (7, 0, 0, 0, 0, 0, [])),
  (1, (1, 97, 0, 0, 0, 0, [])),
  (3, (1, 122, 0, 0, 0, 0, [])),
  (5, (63, 0, 0, 40, 0, 0, [])),
  (8, (42, 0, 0, 22, 0, 0, [])),
  (11, (7, 0, 0, 0, 0, 0, [])),
  (12, (1, 65, 0, 0, 0, 0, [])),
  (14, (1, 74, 0, 0, 0, 0, [])),
  (16, (63, 0, 0, 40, 0, 0, [])),
  (19, (41, 0, 0, 26, 0, 0, [])),
  (22, (0, 1, 0, 0, 0, 0, [])),
  (23, (40, 0, 0, 27, 0, 0, [])),
  (26, (0, 0, 0, 0, 0, 0, [])),
  (27, (64, 0, 0, 0, 0, 0, []))]
def e_X3_tellsWorth : Ev := (t_X3_tellsWorth, [(40, (3, 1, 0, 0, s_X9_within))], 4, 0, false, 0, fun _ => 0)
def s_X3_tellsWorth : Sp := spc e_X3_tellsWorth 1
theorem m_X3_tellsWorth : monoE e_X3_tellsWorth := monoE_of (cons_all (p_X9_within) nil_all)
theorem p_X3_tellsWorth : mono s_X3_tellsWorth := spc_mono m_X3_tellsWorth _
theorem k_X3_tellsWorth (l : Launch) : Con l y_X3_tellsWorth prog_5_method_6_code 1 (Option.some Jvm.ClassFile.FieldType.boolean) { frames := 1, cells := 0, slots := 0, locals := 22 } 1 0 s_X3_tellsWorth := con_of l e_X3_tellsWorth y_X3_tellsWorth prog_5_method_6_code 1 (Option.some Jvm.ClassFile.FieldType.boolean) _ (by decide +kernel) (cons_all (clN (k_X9_within l) f_X9_within ⟨rfl, rfl, Nat.le_of_ble_eq_true rfl, Nat.le_of_ble_eq_true rfl⟩ (by unfold nstL; decide +kernel)) nil_all) (Or.inl (by decide +kernel))
theorem f_X3_tellsWorth : calS y_X3_tellsWorth prog_5_method_6_code 1 (Option.some Jvm.ClassFile.FieldType.boolean) 1 := ⟨⟨mem_g (i := 317) (by decide +kernel) rfl, mg 26 (by decide +kernel)⟩, by decide +kernel, by decide +kernel, mg 316 (by decide +kernel)⟩
def y_X3_guestFault : MethodName := ⟨"ActsPaid$Pad", "guestFault", "(I)I"⟩
def t_X3_guestFault : List (Nat × Ao) := [
  (0, (0, 0, 0, 0, 0, 0, [])),
  (1, (13, 0, 0, 2, 0, 0, [])),
  (2, (7, 0, 0, 2, 0, 0, [])),
  (3, (9, 0, 0, 0, 0, 0, [])),
  (4, (55, 0, 0, 15, 97, 53, [])),
  (7, (50, 0, 0, 34, 0, 0, [])),
  (10, (7, 0, 0, 2, 0, 0, [])),
  (11, (7, 0, 0, 1, 0, 0, [])),
  (12, (50, 0, 0, 26, 0, 0, [])),
  (15, (9, 0, 0, 0, 0, 0, [])),
  (16, (7, 0, 0, 2, 0, 0, [])),
  (17, (62, 0, 0, 29, 0, 0, [])),
  (20, (63, 0, 0, 33, 0, 0, [])),
  (23, (42, 0, 0, 28, 0, 0, [])),
  (26, (7, 0, 0, 2, 0, 0, [])),
  (27, (64, 0, 0, 0, 0, 0, [])),
  (28, (39, 1, 0, 2, 0, 0, [])),
  (31, (40, 0, 0, 2, 0, 0, [])),
  (34, (9, 0, 0, 0, 0, 0, [])),
  (35, (55, 0, 0, 15, 97, 53, [])),
  (38, (7, 0, 0, 1, 0, 0, [])),
  (39, (50, 0, 0, 49, 0, 0, [])),
  (42, (9, 0, 0, 0, 0, 0, [])),
  (43, (55, 0, 0, 15, 97, 53, [])),
  (46, (40, 0, 0, 51, 0, 0, [])),
  (49, (1, (-6), 0, 0, 0, 0, [])),
  (51, (64, 0, 0, 0, 0, 0, []))]
def e_X3_guestFault : Ev := (t_X3_guestFault, [(29, (2, 1, 0, 4, s_X3_sign)), (33, (1, 1, 0, 0, s_X3_tellsWorth))], 1, 0, false, 0, fun _ => 0)
def s_X3_guestFault : Sp := spc e_X3_guestFault 3
theorem m_X3_guestFault : monoE e_X3_guestFault := monoE_of (cons_all (p_X3_sign) (cons_all (p_X3_tellsWorth) nil_all))
theorem p_X3_guestFault : mono s_X3_guestFault := spc_mono m_X3_guestFault _
theorem k_X3_guestFault (l : Launch) : Con l y_X3_guestFault prog_5_method_4_code 3 (Option.some Jvm.ClassFile.FieldType.int) { frames := 2, cells := 0, slots := 0, locals := 42 } 1 0 s_X3_guestFault := con_of l e_X3_guestFault y_X3_guestFault prog_5_method_4_code 3 (Option.some Jvm.ClassFile.FieldType.int) _ (by decide +kernel) (cons_all (clV (k_X3_sign l) f_X3_sign ⟨rfl, rfl, Nat.le_of_ble_eq_true rfl, Nat.le_of_ble_eq_true rfl⟩ (mg 308 (by decide +kernel))) (cons_all (clS (k_X3_tellsWorth l) f_X3_tellsWorth ⟨rfl, rfl, Nat.le_of_ble_eq_true rfl, Nat.le_of_ble_eq_true rfl⟩ (mg 315 (by decide +kernel))) nil_all)) (Or.inl (by decide +kernel))
theorem f_X3_guestFault : calV y_X3_guestFault prog_5_method_4_code 3 (Option.some Jvm.ClassFile.FieldType.int) 2 3 := ⟨⟨mem_g (i := 307) (by decide +kernel) rfl, mg 26 (by decide +kernel)⟩, by decide +kernel, by decide +kernel, by decide, mg 305 (by decide +kernel), mg 306 (by decide +kernel), _, rfl, rfl⟩
def y_X3_actTold : MethodName := ⟨"ActsPaid$Pad", "actTold", "(I)I"⟩
def t_X3_actTold : List (Nat × Ao) := [
  (0, (7, 0, 0, 0, 0, 0, [])),
  (1, (1, 48, 0, 0, 0, 0, [])),
  (3, (20, 0, 0, 0, 0, 0, [])),
  (4, (64, 0, 0, 0, 0, 0, []))]
def e_X3_actTold : Ev := (t_X3_actTold, [], 1, 0, false, 0, fun _ => 0)
def s_X3_actTold : Sp := spc e_X3_actTold 1
theorem m_X3_actTold : monoE e_X3_actTold := monoE_of nil_all
theorem p_X3_actTold : mono s_X3_actTold := spc_mono m_X3_actTold _
theorem k_X3_actTold (l : Launch) : Con l y_X3_actTold prog_5_method_8_code 1 (Option.some Jvm.ClassFile.FieldType.int) { frames := 0, cells := 0, slots := 0, locals := 0 } 1 0 s_X3_actTold := con_of l e_X3_actTold y_X3_actTold prog_5_method_8_code 1 (Option.some Jvm.ClassFile.FieldType.int) _ (by decide +kernel) nil_all (Or.inl (by decide +kernel))
theorem f_X3_actTold : calS y_X3_actTold prog_5_method_8_code 1 (Option.some Jvm.ClassFile.FieldType.int) 1 := ⟨⟨mem_g (i := 325) (by decide +kernel) rfl, mg 26 (by decide +kernel)⟩, by decide +kernel, by decide +kernel, mg 324 (by decide +kernel)⟩
def y_X3_orderFault : MethodName := ⟨"ActsPaid$Pad", "orderFault", "(I)I"⟩
def t_X3_orderFault : List (Nat × Ao) := [
  (0, (0, 0, 0, 0, 0, 0, [])),
  (1, (13, 0, 0, 2, 0, 0, [])),
  (2, (0, 0, 0, 0, 0, 0, [])),
  (3, (13, 0, 0, 3, 0, 0, [])),
  (4, (7, 0, 0, 3, 0, 0, [])),
  (5, (9, 0, 0, 0, 0, 0, [])),
  (6, (55, 0, 0, 15, 97, 53, [])),
  (9, (50, 0, 0, 58, 0, 0, [])),
  (12, (9, 0, 0, 0, 0, 0, [])),
  (13, (7, 0, 0, 3, 0, 0, [])),
  (14, (62, 0, 0, 29, 0, 0, [])),
  (17, (63, 0, 0, 37, 0, 0, [])),
  (20, (14, 0, 0, 4, 0, 0, [])),
  (22, (8, 0, 0, 4, 0, 0, [])),
  (24, (0, 0, 0, 0, 0, 0, [])),
  (25, (7, 0, 0, 1, 0, 0, [])),
  (26, (0, 1, 0, 0, 0, 0, [])),
  (27, (20, 0, 0, 0, 0, 0, [])),
  (28, (63, 0, 0, 40, 0, 0, [])),
  (31, (41, 0, 0, 43, 0, 0, [])),
  (34, (7, 0, 0, 2, 0, 0, [])),
  (35, (8, 0, 0, 4, 0, 0, [])),
  (37, (29, 0, 0, 0, 0, 0, [])),
  (38, (0, 1, 0, 0, 0, 0, [])),
  (39, (25, 0, 0, 0, 0, 0, [])),
  (40, (41, 0, 0, 45, 0, 0, [])),
  (43, (7, 0, 0, 3, 0, 0, [])),
  (44, (64, 0, 0, 0, 0, 0, [])),
  (45, (7, 0, 0, 2, 0, 0, [])),
  (46, (0, 1, 0, 0, 0, 0, [])),
  (47, (8, 0, 0, 4, 0, 0, [])),
  (49, (28, 0, 0, 0, 0, 0, [])),
  (50, (26, 0, 0, 0, 0, 0, [])),
  (51, (13, 0, 0, 2, 0, 0, [])),
  (52, (39, 1, 0, 3, 0, 0, [])),
  (55, (40, 0, 0, 4, 0, 0, [])),
  (58, (9, 0, 0, 0, 0, 0, [])),
  (59, (55, 0, 0, 15, 97, 53, [])),
  (62, (7, 0, 0, 1, 0, 0, [])),
  (63, (50, 0, 0, 73, 0, 0, [])),
  (66, (9, 0, 0, 0, 0, 0, [])),
  (67, (55, 0, 0, 15, 97, 53, [])),
  (70, (40, 0, 0, 75, 0, 0, [])),
  (73, (1, (-6), 0, 0, 0, 0, [])),
  (75, (64, 0, 0, 0, 0, 0, []))]
def e_X3_orderFault : Ev := (t_X3_orderFault, [(29, (2, 1, 0, 4, s_X3_sign)), (37, (1, 1, 0, 0, s_X3_actTold)), (40, (3, 1, 0, 0, s_X9_within))], 1, 0, false, 0, fun _ => 0)
def s_X3_orderFault : Sp := spc e_X3_orderFault 5
theorem m_X3_orderFault : monoE e_X3_orderFault := monoE_of (cons_all (p_X3_sign) (cons_all (p_X3_actTold) (cons_all (p_X9_within) nil_all)))
theorem p_X3_orderFault : mono s_X3_orderFault := spc_mono m_X3_orderFault _
theorem k_X3_orderFault (l : Launch) : Con l y_X3_orderFault prog_5_method_5_code 5 (Option.some Jvm.ClassFile.FieldType.int) { frames := 2, cells := 0, slots := 0, locals := 42 } 1 0 s_X3_orderFault := con_of l e_X3_orderFault y_X3_orderFault prog_5_method_5_code 5 (Option.some Jvm.ClassFile.FieldType.int) _ (by decide +kernel) (cons_all (clV (k_X3_sign l) f_X3_sign ⟨rfl, rfl, Nat.le_of_ble_eq_true rfl, Nat.le_of_ble_eq_true rfl⟩ (mg 308 (by decide +kernel))) (cons_all (clS (k_X3_actTold l) f_X3_actTold ⟨rfl, rfl, Nat.le_of_ble_eq_true rfl, Nat.le_of_ble_eq_true rfl⟩ (mg 323 (by decide +kernel))) (cons_all (clN (k_X9_within l) f_X9_within ⟨rfl, rfl, Nat.le_of_ble_eq_true rfl, Nat.le_of_ble_eq_true rfl⟩ (by unfold nstL; decide +kernel)) nil_all))) (Or.inl (by decide +kernel))
theorem f_X3_orderFault : calV y_X3_orderFault prog_5_method_5_code 5 (Option.some Jvm.ClassFile.FieldType.int) 2 3 := ⟨⟨mem_g (i := 322) (by decide +kernel) rfl, mg 26 (by decide +kernel)⟩, by decide +kernel, by decide +kernel, by decide, mg 320 (by decide +kernel), mg 321 (by decide +kernel), _, rfl, rfl⟩
def y_X3_worthTold : MethodName := ⟨"ActsPaid$Pad", "worthTold", "(I)I"⟩
def t_X3_worthTold : List (Nat × Ao) := [
  (0, (7, 0, 0, 0, 0, 0, [])),
  (1, (1, 97, 0, 0, 0, 0, [])),
  (3, (49, 0, 0, 13, 0, 0, [])),
  (6, (7, 0, 0, 0, 0, 0, [])),
  (7, (1, 97, 0, 0, 0, 0, [])),
  (9, (20, 0, 0, 0, 0, 0, [])),
  (10, (40, 0, 0, 17, 0, 0, [])),
  (13, (1, 64, 0, 0, 0, 0, [])),
  (15, (7, 0, 0, 0, 0, 0, [])),
  (16, (20, 0, 0, 0, 0, 0, [])),
  (17, (64, 0, 0, 0, 0, 0, []))]
def e_X3_worthTold : Ev := (t_X3_worthTold, [], 1, 0, false, 0, fun _ => 0)
def s_X3_worthTold : Sp := spc e_X3_worthTold 1
theorem m_X3_worthTold : monoE e_X3_worthTold := monoE_of nil_all
theorem p_X3_worthTold : mono s_X3_worthTold := spc_mono m_X3_worthTold _
theorem k_X3_worthTold (l : Launch) : Con l y_X3_worthTold prog_5_method_7_code 1 (Option.some Jvm.ClassFile.FieldType.int) { frames := 0, cells := 0, slots := 0, locals := 0 } 1 0 s_X3_worthTold := con_of l e_X3_worthTold y_X3_worthTold prog_5_method_7_code 1 (Option.some Jvm.ClassFile.FieldType.int) _ (by decide +kernel) nil_all (Or.inl (by decide +kernel))
theorem f_X3_worthTold : calS y_X3_worthTold prog_5_method_7_code 1 (Option.some Jvm.ClassFile.FieldType.int) 1 := ⟨⟨mem_g (i := 333) (by decide +kernel) rfl, mg 26 (by decide +kernel)⟩, by decide +kernel, by decide +kernel, mg 332 (by decide +kernel)⟩
def y_X8_allPay : MethodName := ⟨"ActsPaid$Stage", "allPay", "()I"⟩
def t_X8_allPay : List (Nat × Ao) := [
  (0, (0, 0, 0, 0, 0, 0, [])),
  (1, (13, 0, 0, 1, 0, 0, [])),
  (2, (0, 0, 0, 0, 0, 0, [])),
  (3, (13, 0, 0, 2, 0, 0, [])),
  (4, (7, 0, 0, 2, 0, 0, [])),
  (5, (1, 8, 0, 0, 0, 0, [])),
  (7, (50, 0, 0, 24, 0, 0, [])),
  (10, (7, 0, 0, 1, 0, 0, [])),
  (11, (9, 0, 0, 0, 0, 0, [])),
  (12, (7, 0, 0, 2, 0, 0, [])),
  (13, (62, 0, 0, 96, 0, 0, [])),
  (16, (19, 0, 0, 0, 0, 0, [])),
  (17, (13, 0, 0, 1, 0, 0, [])),
  (18, (39, 1, 0, 2, 0, 0, [])),
  (21, (40, 0, 0, 4, 0, 0, [])),
  (24, (7, 0, 0, 1, 0, 0, [])),
  (25, (64, 0, 0, 0, 0, 0, []))]
def e_X8_allPay : Ev := (t_X8_allPay, [(96, (2, 1, 0, 8, s_X8_pays))], 1, 0, false, 0, fun _ => 0)
def s_X8_allPay : Sp := spc e_X8_allPay 3
theorem m_X8_allPay : monoE e_X8_allPay := monoE_of (cons_all (p_X8_pays) nil_all)
theorem p_X8_allPay : mono s_X8_allPay := spc_mono m_X8_allPay _
theorem k_X8_allPay (l : Launch) : Con l y_X8_allPay prog_10_method_16_code 3 (Option.some Jvm.ClassFile.FieldType.int) { frames := 4, cells := 0, slots := 0, locals := 90 } 1 0 s_X8_allPay := con_of l e_X8_allPay y_X8_allPay prog_10_method_16_code 3 (Option.some Jvm.ClassFile.FieldType.int) _ (by decide +kernel) (cons_all (clV (k_X8_pays l) f_X8_pays ⟨rfl, rfl, Nat.le_of_ble_eq_true rfl, Nat.le_of_ble_eq_true rfl⟩ (mg 400 (by decide +kernel))) nil_all) (Or.inl (by decide +kernel))
theorem f_X8_allPay : calV y_X8_allPay prog_10_method_16_code 3 (Option.some Jvm.ClassFile.FieldType.int) 1 7 := ⟨⟨mem_g (i := 399) (by decide +kernel) rfl, mg 27 (by decide +kernel)⟩, by decide +kernel, by decide +kernel, by decide, mg 397 (by decide +kernel), mg 398 (by decide +kernel), _, rfl, rfl⟩
def y_X4_faresForMost : MethodName := ⟨"ActsPaid$Programme", "faresForMost", "(LActsPaid$Stage;I)I"⟩
def t_X4_faresForMost : List (Nat × Ao) := [
  (0, (0, (-1), 0, 0, 0, 0, [])),
  (1, (13, 0, 0, 2, 0, 0, [])),
  (2, (0, 0, 0, 0, 0, 0, [])),
  (3, (13, 0, 0, 3, 0, 0, [])),
  (4, (0, 0, 0, 0, 0, 0, [])),
  (5, (14, 0, 0, 4, 0, 0, [])),
  (7, (8, 0, 0, 4, 0, 0, [])),
  (9, (2, 310, 0, 0, 0, 0, [])),
  (12, (50, 0, 0, 57, 0, 0, [])),
  (15, (9, 0, 0, 0, 0, 0, [])),
  (16, (8, 0, 0, 4, 0, 0, [])),
  (18, (1, 10, 0, 0, 0, 0, [])),
  (20, (22, 0, 0, 0, 0, 0, [])),
  (21, (56, 0, 0, 15, 225, 93, [])),
  (24, (9, 0, 0, 0, 0, 0, [])),
  (25, (8, 0, 0, 4, 0, 0, [])),
  (27, (1, 10, 0, 0, 0, 0, [])),
  (29, (23, 0, 0, 0, 0, 0, [])),
  (30, (56, 0, 0, 21, 226, 98, [])),
  (33, (9, 0, 0, 0, 0, 0, [])),
  (34, (62, 0, 0, 24, 0, 0, [])),
  (37, (14, 0, 0, 5, 0, 0, [])),
  (39, (8, 0, 0, 5, 0, 0, [])),
  (41, (7, 0, 0, 2, 0, 0, [])),
  (42, (52, 0, 0, 51, 0, 0, [])),
  (45, (8, 0, 0, 5, 0, 0, [])),
  (47, (13, 0, 0, 2, 0, 0, [])),
  (48, (8, 0, 0, 4, 0, 0, [])),
  (50, (13, 0, 0, 3, 0, 0, [])),
  (51, (39, 1, 0, 4, 0, 0, [])),
  (54, (40, 0, 0, 7, 0, 0, [])),
  (57, (7, 0, 0, 1, 0, 0, [])),
  (58, (69, 0, 0, 94, 0, 0, [(0, 84), (1, 89)])),
  (84, (7, 0, 0, 3, 0, 0, [])),
  (85, (1, 10, 0, 0, 0, 0, [])),
  (87, (22, 0, 0, 0, 0, 0, [])),
  (88, (64, 0, 0, 0, 0, 0, [])),
  (89, (7, 0, 0, 3, 0, 0, [])),
  (90, (1, 10, 0, 0, 0, 0, [])),
  (92, (23, 0, 0, 0, 0, 0, [])),
  (93, (64, 0, 0, 0, 0, 0, [])),
  (94, (7, 0, 0, 2, 0, 0, [])),
  (95, (64, 0, 0, 0, 0, 0, []))]
def e_X4_faresForMost : Ev := (t_X4_faresForMost, [(24, (1, 1, 0, 8, s_X8_allPay))], 1, 0, false, 0, fun _ => 0)
def s_X4_faresForMost : Sp := spc e_X4_faresForMost 6
theorem m_X4_faresForMost : monoE e_X4_faresForMost := monoE_of (cons_all (p_X8_allPay) nil_all)
theorem p_X4_faresForMost : mono s_X4_faresForMost := spc_mono m_X4_faresForMost _
theorem k_X4_faresForMost (l : Launch) : Con l y_X4_faresForMost prog_6_method_2_code 6 (Option.some Jvm.ClassFile.FieldType.int) { frames := 5, cells := 0, slots := 0, locals := 112 } 1 0 s_X4_faresForMost := con_of l e_X4_faresForMost y_X4_faresForMost prog_6_method_2_code 6 (Option.some Jvm.ClassFile.FieldType.int) _ (by decide +kernel) (cons_all (clV (k_X8_allPay l) f_X8_allPay ⟨rfl, rfl, Nat.le_of_ble_eq_true rfl, Nat.le_of_ble_eq_true rfl⟩ (mg 434 (by decide +kernel))) nil_all) (Or.inl (by decide +kernel))
theorem f_X4_faresForMost : calS y_X4_faresForMost prog_6_method_2_code 6 (Option.some Jvm.ClassFile.FieldType.int) 2 := ⟨⟨mem_g (i := 433) (by decide +kernel) rfl, mg 30 (by decide +kernel)⟩, by decide +kernel, by decide +kernel, mg 432 (by decide +kernel)⟩
def y_X8_orderByNumbers : MethodName := ⟨"ActsPaid$Stage", "orderByNumbers", "()V"⟩
def t_X8_orderByNumbers : List (Nat × Ao) := [
  (0, (0, 0, 0, 0, 0, 0, [])),
  (1, (13, 0, 0, 1, 0, 0, [])),
  (2, (7, 0, 0, 1, 0, 0, [])),
  (3, (1, 6, 0, 0, 0, 0, [])),
  (5, (50, 0, 0, 23, 0, 0, [])),
  (8, (9, 0, 0, 0, 0, 0, [])),
  (9, (55, 0, 0, 24, 230, 110, [])),
  (12, (7, 0, 0, 1, 0, 0, [])),
  (13, (7, 0, 0, 1, 0, 0, [])),
  (14, (63, 0, 0, 69, 0, 0, [])),
  (17, (39, 1, 0, 1, 0, 0, [])),
  (20, (40, 0, 0, 2, 0, 0, [])),
  (23, (66, 0, 0, 0, 0, 0, []))]
def e_X8_orderByNumbers : Ev := (t_X8_orderByNumbers, [(69, (3, 0, 0, 0, s_X5_put))], 0, 0, false, 0, fun _ => 0)
def s_X8_orderByNumbers : Sp := spc e_X8_orderByNumbers 2
theorem m_X8_orderByNumbers : monoE e_X8_orderByNumbers := monoE_of (cons_all (p_X5_put) nil_all)
theorem p_X8_orderByNumbers : mono s_X8_orderByNumbers := spc_mono m_X8_orderByNumbers _
theorem k_X8_orderByNumbers (l : Launch) : Con l y_X8_orderByNumbers prog_10_method_4_code 2 (Option.none : Option Jvm.ClassFile.FieldType) { frames := 1, cells := 0, slots := 0, locals := 22 } 0 0 s_X8_orderByNumbers := con_of l e_X8_orderByNumbers y_X8_orderByNumbers prog_10_method_4_code 2 (Option.none : Option Jvm.ClassFile.FieldType) _ (by decide +kernel) (cons_all (clS (k_X5_put l) f_X5_put ⟨rfl, rfl, Nat.le_of_ble_eq_true rfl, Nat.le_of_ble_eq_true rfl⟩ (mg 269 (by decide +kernel))) nil_all) (Or.inl (by decide +kernel))
theorem f_X8_orderByNumbers : calV y_X8_orderByNumbers prog_10_method_4_code 2 (Option.none : Option Jvm.ClassFile.FieldType) 1 7 := ⟨⟨mem_g (i := 268) (by decide +kernel) rfl, mg 27 (by decide +kernel)⟩, by decide +kernel, by decide +kernel, by decide, mg 266 (by decide +kernel), mg 267 (by decide +kernel), _, rfl, rfl⟩
def y_X8_keepsMust : MethodName := ⟨"ActsPaid$Stage", "keepsMust", "()Z"⟩
def t_X8_keepsMust : List (Nat × Ao) := [
  (0, (0, 0, 0, 0, 0, 0, [])),
  (1, (13, 0, 0, 1, 0, 0, [])),
  (2, (0, 0, 0, 0, 0, 0, [])),
  (3, (13, 0, 0, 2, 0, 0, [])),
  (4, (7, 0, 0, 2, 0, 0, [])),
  (5, (9, 0, 0, 0, 0, 0, [])),
  (6, (55, 0, 0, 9, 224, 88, [])),
  (9, (50, 0, 0, 48, 0, 0, [])),
  (12, (9, 0, 0, 0, 0, 0, [])),
  (13, (55, 0, 0, 24, 230, 110, [])),
  (16, (7, 0, 0, 2, 0, 0, [])),
  (17, (63, 0, 0, 77, 0, 0, [])),
  (20, (13, 0, 0, 3, 0, 0, [])),
  (21, (9, 0, 0, 0, 0, 0, [])),
  (22, (55, 0, 0, 34, 233, 117, [])),
  (25, (7, 0, 0, 3, 0, 0, [])),
  (26, (63, 0, 0, 77, 0, 0, [])),
  (29, (7, 0, 0, 1, 0, 0, [])),
  (30, (25, 0, 0, 0, 0, 0, [])),
  (31, (41, 0, 0, 36, 0, 0, [])),
  (34, (0, 0, 0, 0, 0, 0, [])),
  (35, (64, 0, 0, 0, 0, 0, [])),
  (36, (7, 0, 0, 1, 0, 0, [])),
  (37, (0, 1, 0, 0, 0, 0, [])),
  (38, (7, 0, 0, 3, 0, 0, [])),
  (39, (28, 0, 0, 0, 0, 0, [])),
  (40, (26, 0, 0, 0, 0, 0, [])),
  (41, (13, 0, 0, 1, 0, 0, [])),
  (42, (39, 1, 0, 2, 0, 0, [])),
  (45, (40, 0, 0, 4, 0, 0, [])),
  (48, (0, 1, 0, 0, 0, 0, [])),
  (49, (64, 0, 0, 0, 0, 0, []))]
def e_X8_keepsMust : Ev := (t_X8_keepsMust, [(77, (2, 1, 0, 0, s_X5_at))], 4, 0, false, 0, fun _ => 0)
def s_X8_keepsMust : Sp := spc e_X8_keepsMust 4
theorem m_X8_keepsMust : monoE e_X8_keepsMust := monoE_of (cons_all (p_X5_at) nil_all)
theorem p_X8_keepsMust : mono s_X8_keepsMust := spc_mono m_X8_keepsMust _
theorem k_X8_keepsMust (l : Launch) : Con l y_X8_keepsMust prog_10_method_19_code 4 (Option.some Jvm.ClassFile.FieldType.boolean) { frames := 1, cells := 0, slots := 0, locals := 21 } 1 0 s_X8_keepsMust := con_of l e_X8_keepsMust y_X8_keepsMust prog_10_method_19_code 4 (Option.some Jvm.ClassFile.FieldType.boolean) _ (by decide +kernel) (cons_all (clS (k_X5_at l) f_X5_at ⟨rfl, rfl, Nat.le_of_ble_eq_true rfl, Nat.le_of_ble_eq_true rfl⟩ (mg 365 (by decide +kernel))) nil_all) (Or.inl (by decide +kernel))
theorem f_X8_keepsMust : calV y_X8_keepsMust prog_10_method_19_code 4 (Option.some Jvm.ClassFile.FieldType.boolean) 1 7 := ⟨⟨mem_g (i := 460) (by decide +kernel) rfl, mg 27 (by decide +kernel)⟩, by decide +kernel, by decide +kernel, by decide, mg 458 (by decide +kernel), mg 459 (by decide +kernel), _, rfl, rfl⟩
def y_X5_copy : MethodName := ⟨"ActsPaid$Rows", "copy", "([I[I)V"⟩
def t_X5_copy : List (Nat × Ao) := [
  (0, (9, 0, 0, 0, 0, 0, [])),
  (1, (53, 0, 0, 8, 0, 0, [])),
  (4, (9, 0, 0, 1, 0, 0, [])),
  (5, (54, 0, 0, 9, 0, 0, [])),
  (8, (66, 0, 0, 0, 0, 0, [])),
  (9, (0, 0, 0, 0, 0, 0, [])),
  (10, (13, 0, 0, 2, 0, 0, [])),
  (11, (7, 0, 0, 2, 0, 0, [])),
  (12, (9, 0, 0, 0, 0, 0, [])),
  (13, (61, 0, 0, 0, 0, 0, [])),
  (14, (50, 0, 0, 35, 0, 0, [])),
  (17, (7, 0, 0, 2, 0, 0, [])),
  (18, (9, 0, 0, 1, 0, 0, [])),
  (19, (61, 0, 0, 0, 0, 0, [])),
  (20, (50, 0, 0, 35, 0, 0, [])),
  (23, (9, 0, 0, 1, 0, 0, [])),
  (24, (7, 0, 0, 2, 0, 0, [])),
  (25, (9, 0, 0, 0, 0, 0, [])),
  (26, (7, 0, 0, 2, 0, 0, [])),
  (27, (57, 0, 0, 0, 0, 0, [])),
  (28, (58, 0, 0, 0, 0, 0, [])),
  (29, (39, 1, 0, 2, 0, 0, [])),
  (32, (40, 0, 0, 11, 0, 0, [])),
  (35, (66, 0, 0, 0, 0, 0, []))]
def e_X5_copy : Ev := (t_X5_copy, [], 0, 0, false, 0, fun _ => 0)
def s_X5_copy : Sp := spc e_X5_copy 3
theorem m_X5_copy : monoE e_X5_copy := monoE_of nil_all
theorem p_X5_copy : mono s_X5_copy := spc_mono m_X5_copy _
theorem k_X5_copy (l : Launch) : Con l y_X5_copy prog_7_method_5_code 3 (Option.none : Option Jvm.ClassFile.FieldType) { frames := 0, cells := 0, slots := 0, locals := 0 } 0 0 s_X5_copy := con_of l e_X5_copy y_X5_copy prog_7_method_5_code 3 (Option.none : Option Jvm.ClassFile.FieldType) _ (by decide +kernel) nil_all (Or.inl (by decide +kernel))
theorem f_X5_copy : calS y_X5_copy prog_7_method_5_code 3 (Option.none : Option Jvm.ClassFile.FieldType) 2 := ⟨⟨mem_g (i := 425) (by decide +kernel) rfl, mg 35 (by decide +kernel)⟩, by decide +kernel, by decide +kernel, mg 424 (by decide +kernel)⟩
def y_X5_swap : MethodName := ⟨"ActsPaid$Rows", "swap", "([III)V"⟩
def t_X5_swap : List (Nat × Ao) := [
  (0, (9, 0, 0, 0, 0, 0, [])),
  (1, (7, 0, 0, 1, 0, 0, [])),
  (2, (63, 0, 0, 7, 0, 0, [])),
  (5, (13, 0, 0, 3, 0, 0, [])),
  (6, (9, 0, 0, 0, 0, 0, [])),
  (7, (7, 0, 0, 1, 0, 0, [])),
  (8, (9, 0, 0, 0, 0, 0, [])),
  (9, (7, 0, 0, 2, 0, 0, [])),
  (10, (63, 0, 0, 7, 0, 0, [])),
  (13, (63, 0, 0, 13, 0, 0, [])),
  (16, (9, 0, 0, 0, 0, 0, [])),
  (17, (7, 0, 0, 2, 0, 0, [])),
  (18, (7, 0, 0, 3, 0, 0, [])),
  (19, (63, 0, 0, 13, 0, 0, [])),
  (22, (66, 0, 0, 0, 0, 0, []))]
def e_X5_swap : Ev := (t_X5_swap, [(7, (2, 1, 0, 0, s_X5_at)), (13, (3, 0, 0, 0, s_X5_put))], 0, 0, false, 0, fun _ => 0)
def s_X5_swap : Sp := spc e_X5_swap 4
theorem m_X5_swap : monoE e_X5_swap := monoE_of (cons_all (p_X5_at) (cons_all (p_X5_put) nil_all))
theorem p_X5_swap : mono s_X5_swap := spc_mono m_X5_swap _
theorem k_X5_swap (l : Launch) : Con l y_X5_swap prog_7_method_4_code 4 (Option.none : Option Jvm.ClassFile.FieldType) { frames := 1, cells := 0, slots := 0, locals := 22 } 0 0 s_X5_swap := con_of l e_X5_swap y_X5_swap prog_7_method_4_code 4 (Option.none : Option Jvm.ClassFile.FieldType) _ (by decide +kernel) (cons_all (clS (k_X5_at l) f_X5_at ⟨rfl, rfl, Nat.le_of_ble_eq_true rfl, Nat.le_of_ble_eq_true rfl⟩ (mg 469 (by decide +kernel))) (cons_all (clS (k_X5_put l) f_X5_put ⟨rfl, rfl, Nat.le_of_ble_eq_true rfl, Nat.le_of_ble_eq_true rfl⟩ (mg 470 (by decide +kernel))) nil_all)) (Or.inl (by decide +kernel))
theorem f_X5_swap : calS y_X5_swap prog_7_method_4_code 4 (Option.none : Option Jvm.ClassFile.FieldType) 3 := ⟨⟨mem_g (i := 468) (by decide +kernel) rfl, mg 35 (by decide +kernel)⟩, by decide +kernel, by decide +kernel, mg 467 (by decide +kernel)⟩
def y_X4_nextByDigits : MethodName := ⟨"ActsPaid$Programme", "nextByDigits", "([II)Z"⟩
def t_X4_nextByDigits : List (Nat × Ao) := [
  (0, (7, 0, 0, 1, 0, 0, [])),
  (1, (0, 2, 0, 0, 0, 0, [])),
  (2, (20, 0, 0, 0, 0, 0, [])),
  (3, (13, 0, 0, 2, 0, 0, [])),
  (4, (7, 0, 0, 2, 0, 0, [])),
  (5, (43, 0, 0, 29, 0, 0, [])),
  (8, (9, 0, 0, 0, 0, 0, [])),
  (9, (7, 0, 0, 2, 0, 0, [])),
  (10, (63, 0, 0, 51, 0, 0, [])),
  (13, (9, 0, 0, 0, 0, 0, [])),
  (14, (7, 0, 0, 2, 0, 0, [])),
  (15, (0, 1, 0, 0, 0, 0, [])),
  (16, (19, 0, 0, 0, 0, 0, [])),
  (17, (63, 0, 0, 51, 0, 0, [])),
  (20, (52, 0, 0, 29, 0, 0, [])),
  (23, (39, (-1), 0, 2, 0, 0, [])),
  (26, (40, 0, 0, 4, 0, 0, [])),
  (29, (7, 0, 0, 2, 0, 0, [])),
  (30, (44, 0, 0, 35, 0, 0, [])),
  (33, (0, 0, 0, 0, 0, 0, [])),
  (34, (64, 0, 0, 0, 0, 0, [])),
  (35, (7, 0, 0, 1, 0, 0, [])),
  (36, (0, 1, 0, 0, 0, 0, [])),
  (37, (20, 0, 0, 0, 0, 0, [])),
  (38, (13, 0, 0, 3, 0, 0, [])),
  (39, (7, 0, 0, 3, 0, 0, [])),
  (40, (7, 0, 0, 2, 0, 0, [])),
  (41, (52, 0, 0, 63, 0, 0, [])),
  (44, (9, 0, 0, 0, 0, 0, [])),
  (45, (7, 0, 0, 3, 0, 0, [])),
  (46, (63, 0, 0, 51, 0, 0, [])),
  (49, (9, 0, 0, 0, 0, 0, [])),
  (50, (7, 0, 0, 2, 0, 0, [])),
  (51, (63, 0, 0, 51, 0, 0, [])),
  (54, (50, 0, 0, 63, 0, 0, [])),
  (57, (39, (-1), 0, 3, 0, 0, [])),
  (60, (40, 0, 0, 39, 0, 0, [])),
  (63, (9, 0, 0, 0, 0, 0, [])),
  (64, (7, 0, 0, 2, 0, 0, [])),
  (65, (7, 0, 0, 3, 0, 0, [])),
  (66, (63, 0, 0, 55, 0, 0, [])),
  (69, (7, 0, 0, 2, 0, 0, [])),
  (70, (0, 1, 0, 0, 0, 0, [])),
  (71, (19, 0, 0, 0, 0, 0, [])),
  (72, (14, 0, 0, 4, 0, 0, [])),
  (74, (7, 0, 0, 1, 0, 0, [])),
  (75, (0, 1, 0, 0, 0, 0, [])),
  (76, (20, 0, 0, 0, 0, 0, [])),
  (77, (14, 0, 0, 5, 0, 0, [])),
  (79, (8, 0, 0, 4, 0, 0, [])),
  (81, (8, 0, 0, 5, 0, 0, [])),
  (83, (50, 0, 0, 103, 0, 0, [])),
  (86, (9, 0, 0, 0, 0, 0, [])),
  (87, (8, 0, 0, 4, 0, 0, [])),
  (89, (8, 0, 0, 5, 0, 0, [])),
  (91, (63, 0, 0, 55, 0, 0, [])),
  (94, (39, 1, 0, 4, 0, 0, [])),
  (97, (39, (-1), 0, 5, 0, 0, [])),
  (100, (40, 0, 0, 79, 0, 0, [])),
  (103, (0, 1, 0, 0, 0, 0, [])),
  (104, (64, 0, 0, 0, 0, 0, []))]
def e_X4_nextByDigits : Ev := (t_X4_nextByDigits, [(51, (2, 1, 0, 0, s_X5_at)), (55, (3, 0, 0, 0, s_X5_swap))], 4, 0, false, 0, fun _ => 0)
def s_X4_nextByDigits : Sp := spc e_X4_nextByDigits 6
theorem m_X4_nextByDigits : monoE e_X4_nextByDigits := monoE_of (cons_all (p_X5_at) (cons_all (p_X5_swap) nil_all))
theorem p_X4_nextByDigits : mono s_X4_nextByDigits := spc_mono m_X4_nextByDigits _
theorem k_X4_nextByDigits (l : Launch) : Con l y_X4_nextByDigits prog_6_method_4_code 6 (Option.some Jvm.ClassFile.FieldType.boolean) { frames := 2, cells := 0, slots := 0, locals := 45 } 1 0 s_X4_nextByDigits := con_of l e_X4_nextByDigits y_X4_nextByDigits prog_6_method_4_code 6 (Option.some Jvm.ClassFile.FieldType.boolean) _ (by decide +kernel) (cons_all (clS (k_X5_at l) f_X5_at ⟨rfl, rfl, Nat.le_of_ble_eq_true rfl, Nat.le_of_ble_eq_true rfl⟩ (mg 465 (by decide +kernel))) (cons_all (clS (k_X5_swap l) f_X5_swap ⟨rfl, rfl, Nat.le_of_ble_eq_true rfl, Nat.le_of_ble_eq_true rfl⟩ (mg 466 (by decide +kernel))) nil_all)) (Or.inl (by decide +kernel))
theorem f_X4_nextByDigits : calS y_X4_nextByDigits prog_6_method_4_code 6 (Option.some Jvm.ClassFile.FieldType.boolean) 2 := ⟨⟨mem_g (i := 464) (by decide +kernel) rfl, mg 30 (by decide +kernel)⟩, by decide +kernel, by decide +kernel, mg 463 (by decide +kernel)⟩
def y_X4_orderForMost : MethodName := ⟨"ActsPaid$Programme", "orderForMost", "(LActsPaid$Stage;I)I"⟩
def t_X4_orderForMost : List (Nat × Ao) := [
  (0, (0, (-1), 0, 0, 0, 0, [])),
  (1, (13, 0, 0, 3, 0, 0, [])),
  (2, (9, 0, 0, 1, 0, 0, [])),
  (3, (62, 0, 0, 28, 0, 0, [])),
  (6, (0, 0, 0, 0, 0, 0, [])),
  (7, (14, 0, 0, 4, 0, 0, [])),
  (9, (8, 0, 0, 4, 0, 0, [])),
  (11, (2, 720, 0, 0, 0, 0, [])),
  (14, (50, 0, 0, 77, 0, 0, [])),
  (17, (9, 0, 0, 1, 0, 0, [])),
  (18, (62, 0, 0, 31, 0, 0, [])),
  (21, (41, 0, 0, 31, 0, 0, [])),
  (24, (9, 0, 0, 1, 0, 0, [])),
  (25, (62, 0, 0, 24, 0, 0, [])),
  (28, (40, 0, 0, 32, 0, 0, [])),
  (31, (0, (-1), 0, 0, 0, 0, [])),
  (32, (14, 0, 0, 5, 0, 0, [])),
  (34, (8, 0, 0, 5, 0, 0, [])),
  (36, (7, 0, 0, 3, 0, 0, [])),
  (37, (52, 0, 0, 54, 0, 0, [])),
  (40, (8, 0, 0, 5, 0, 0, [])),
  (42, (13, 0, 0, 3, 0, 0, [])),
  (43, (9, 0, 0, 1, 0, 0, [])),
  (44, (55, 0, 0, 35, 230, 111, [])),
  (47, (9, 0, 0, 0, 0, 0, [])),
  (48, (55, 0, 0, 9, 128, 170, [])),
  (51, (63, 0, 0, 38, 0, 0, [])),
  (54, (9, 0, 0, 1, 0, 0, [])),
  (55, (55, 0, 0, 35, 230, 111, [])),
  (58, (9, 0, 0, 1, 0, 0, [])),
  (59, (55, 0, 0, 44, 224, 91, [])),
  (62, (63, 0, 0, 47, 0, 0, [])),
  (65, (42, 0, 0, 71, 0, 0, [])),
  (68, (40, 0, 0, 77, 0, 0, [])),
  (71, (39, 1, 0, 4, 0, 0, [])),
  (74, (40, 0, 0, 9, 0, 0, [])),
  (77, (7, 0, 0, 2, 0, 0, [])),
  (78, (0, (-1), 0, 0, 0, 0, [])),
  (79, (48, 0, 0, 86, 0, 0, [])),
  (82, (7, 0, 0, 3, 0, 0, [])),
  (83, (40, 0, 0, 94, 0, 0, [])),
  (86, (9, 0, 0, 0, 0, 0, [])),
  (87, (55, 0, 0, 9, 128, 170, [])),
  (90, (7, 0, 0, 2, 0, 0, [])),
  (91, (63, 0, 0, 51, 0, 0, [])),
  (94, (64, 0, 0, 0, 0, 0, []))]
def e_X4_orderForMost : Ev := (t_X4_orderForMost, [(24, (1, 1, 0, 8, s_X8_allPay)), (28, (1, 0, 0, 8, s_X8_orderByNumbers)), (31, (1, 1, 0, 8, s_X8_keepsMust)), (38, (2, 0, 0, 0, s_X5_copy)), (47, (2, 1, 0, 0, s_X4_nextByDigits)), (51, (2, 1, 0, 0, s_X5_at))], 1, 0, false, 0, fun _ => 0)
def s_X4_orderForMost : Sp := spc e_X4_orderForMost 6
theorem m_X4_orderForMost : monoE e_X4_orderForMost := monoE_of (cons_all (p_X8_allPay) (cons_all (p_X8_orderByNumbers) (cons_all (p_X8_keepsMust) (cons_all (p_X5_copy) (cons_all (p_X4_nextByDigits) (cons_all (p_X5_at) nil_all))))))
theorem p_X4_orderForMost : mono s_X4_orderForMost := spc_mono m_X4_orderForMost _
theorem k_X4_orderForMost (l : Launch) : Con l y_X4_orderForMost prog_6_method_3_code 6 (Option.some Jvm.ClassFile.FieldType.int) { frames := 5, cells := 0, slots := 0, locals := 112 } 1 0 s_X4_orderForMost := con_of l e_X4_orderForMost y_X4_orderForMost prog_6_method_3_code 6 (Option.some Jvm.ClassFile.FieldType.int) _ (by decide +kernel) (cons_all (clV (k_X8_allPay l) f_X8_allPay ⟨rfl, rfl, Nat.le_of_ble_eq_true rfl, Nat.le_of_ble_eq_true rfl⟩ (mg 434 (by decide +kernel))) (cons_all (clV (k_X8_orderByNumbers l) f_X8_orderByNumbers ⟨rfl, rfl, Nat.le_of_ble_eq_true rfl, Nat.le_of_ble_eq_true rfl⟩ (mg 456 (by decide +kernel))) (cons_all (clV (k_X8_keepsMust l) f_X8_keepsMust ⟨rfl, rfl, Nat.le_of_ble_eq_true rfl, Nat.le_of_ble_eq_true rfl⟩ (mg 457 (by decide +kernel))) (cons_all (clS (k_X5_copy l) f_X5_copy ⟨rfl, rfl, Nat.le_of_ble_eq_true rfl, Nat.le_of_ble_eq_true rfl⟩ (mg 461 (by decide +kernel))) (cons_all (clS (k_X4_nextByDigits l) f_X4_nextByDigits ⟨rfl, rfl, Nat.le_of_ble_eq_true rfl, Nat.le_of_ble_eq_true rfl⟩ (mg 462 (by decide +kernel))) (cons_all (clS (k_X5_at l) f_X5_at ⟨rfl, rfl, Nat.le_of_ble_eq_true rfl, Nat.le_of_ble_eq_true rfl⟩ (mg 465 (by decide +kernel))) nil_all)))))) (Or.inl (by decide +kernel))
theorem f_X4_orderForMost : calV y_X4_orderForMost prog_6_method_3_code 6 (Option.some Jvm.ClassFile.FieldType.int) 3 4 := ⟨⟨mem_g (i := 455) (by decide +kernel) rfl, mg 30 (by decide +kernel)⟩, by decide +kernel, by decide +kernel, by decide, mg 453 (by decide +kernel), mg 454 (by decide +kernel), _, rfl, rfl⟩
def y_X8_worthTo : MethodName := ⟨"ActsPaid$Stage", "worthTo", "(II)I"⟩
def t_X8_worthTo : List (Nat × Ao) := [
  (0, (9, 0, 0, 0, 0, 0, [])),
  (1, (55, 0, 0, 28, 231, 113, [])),
  (4, (7, 0, 0, 1, 0, 0, [])),
  (5, (1, 6, 0, 0, 0, 0, [])),
  (7, (21, 0, 0, 0, 0, 0, [])),
  (8, (7, 0, 0, 2, 0, 0, [])),
  (9, (19, 0, 0, 0, 0, 0, [])),
  (10, (63, 0, 0, 77, 0, 0, [])),
  (13, (64, 0, 0, 0, 0, 0, []))]
def e_X8_worthTo : Ev := (t_X8_worthTo, [(77, (2, 1, 0, 0, s_X5_at))], 1, 0, false, 0, fun _ => 0)
def s_X8_worthTo : Sp := spc e_X8_worthTo 3
theorem m_X8_worthTo : monoE e_X8_worthTo := monoE_of (cons_all (p_X5_at) nil_all)
theorem p_X8_worthTo : mono s_X8_worthTo := spc_mono m_X8_worthTo _
theorem k_X8_worthTo (l : Launch) : Con l y_X8_worthTo prog_10_method_9_code 3 (Option.some Jvm.ClassFile.FieldType.int) { frames := 1, cells := 0, slots := 0, locals := 21 } 1 0 s_X8_worthTo := con_of l e_X8_worthTo y_X8_worthTo prog_10_method_9_code 3 (Option.some Jvm.ClassFile.FieldType.int) _ (by decide +kernel) (cons_all (clS (k_X5_at l) f_X5_at ⟨rfl, rfl, Nat.le_of_ble_eq_true rfl, Nat.le_of_ble_eq_true rfl⟩ (mg 365 (by decide +kernel))) nil_all) (Or.inl (by decide +kernel))
theorem f_X8_worthTo : calV y_X8_worthTo prog_10_method_9_code 3 (Option.some Jvm.ClassFile.FieldType.int) 3 7 := ⟨⟨mem_g (i := 364) (by decide +kernel) rfl, mg 27 (by decide +kernel)⟩, by decide +kernel, by decide +kernel, by decide, mg 362 (by decide +kernel), mg 363 (by decide +kernel), _, rfl, rfl⟩
def y_X8_putWorth : MethodName := ⟨"ActsPaid$Stage", "putWorth", "(III)V"⟩
def t_X8_putWorth : List (Nat × Ao) := [
  (0, (9, 0, 0, 0, 0, 0, [])),
  (1, (55, 0, 0, 28, 231, 113, [])),
  (4, (7, 0, 0, 1, 0, 0, [])),
  (5, (1, 6, 0, 0, 0, 0, [])),
  (7, (21, 0, 0, 0, 0, 0, [])),
  (8, (7, 0, 0, 2, 0, 0, [])),
  (9, (19, 0, 0, 0, 0, 0, [])),
  (10, (7, 0, 0, 3, 0, 0, [])),
  (11, (63, 0, 0, 69, 0, 0, [])),
  (14, (66, 0, 0, 0, 0, 0, []))]
def e_X8_putWorth : Ev := (t_X8_putWorth, [(69, (3, 0, 0, 0, s_X5_put))], 0, 0, false, 0, fun _ => 0)
def s_X8_putWorth : Sp := spc e_X8_putWorth 4
theorem m_X8_putWorth : monoE e_X8_putWorth := monoE_of (cons_all (p_X5_put) nil_all)
theorem p_X8_putWorth : mono s_X8_putWorth := spc_mono m_X8_putWorth _
theorem k_X8_putWorth (l : Launch) : Con l y_X8_putWorth prog_10_method_10_code 4 (Option.none : Option Jvm.ClassFile.FieldType) { frames := 1, cells := 0, slots := 0, locals := 22 } 0 0 s_X8_putWorth := con_of l e_X8_putWorth y_X8_putWorth prog_10_method_10_code 4 (Option.none : Option Jvm.ClassFile.FieldType) _ (by decide +kernel) (cons_all (clS (k_X5_put l) f_X5_put ⟨rfl, rfl, Nat.le_of_ble_eq_true rfl, Nat.le_of_ble_eq_true rfl⟩ (mg 269 (by decide +kernel))) nil_all) (Or.inl (by decide +kernel))
theorem f_X8_putWorth : calV y_X8_putWorth prog_10_method_10_code 4 (Option.none : Option Jvm.ClassFile.FieldType) 4 7 := ⟨⟨mem_g (i := 337) (by decide +kernel) rfl, mg 27 (by decide +kernel)⟩, by decide +kernel, by decide +kernel, by decide, mg 335 (by decide +kernel), mg 336 (by decide +kernel), _, rfl, rfl⟩
def y_X4_weepAt : MethodName := ⟨"ActsPaid$Programme", "weepAt", "(LActsPaid$Stage;II)V"⟩
def t_X4_weepAt : List (Nat × Ao) := [
  (0, (0, 0, 0, 0, 0, 0, [])),
  (1, (13, 0, 0, 3, 0, 0, [])),
  (2, (7, 0, 0, 3, 0, 0, [])),
  (3, (1, 8, 0, 0, 0, 0, [])),
  (5, (50, 0, 0, 28, 0, 0, [])),
  (8, (9, 0, 0, 0, 0, 0, [])),
  (9, (7, 0, 0, 3, 0, 0, [])),
  (10, (7, 0, 0, 1, 0, 0, [])),
  (11, (9, 0, 0, 0, 0, 0, [])),
  (12, (7, 0, 0, 3, 0, 0, [])),
  (13, (7, 0, 0, 1, 0, 0, [])),
  (14, (62, 0, 0, 63, 0, 0, [])),
  (17, (7, 0, 0, 2, 0, 0, [])),
  (18, (19, 0, 0, 0, 0, 0, [])),
  (19, (62, 0, 0, 67, 0, 0, [])),
  (22, (39, 1, 0, 3, 0, 0, [])),
  (25, (40, 0, 0, 2, 0, 0, [])),
  (28, (66, 0, 0, 0, 0, 0, []))]
def e_X4_weepAt : Ev := (t_X4_weepAt, [(63, (3, 1, 0, 8, s_X8_worthTo)), (67, (4, 0, 0, 8, s_X8_putWorth))], 0, 0, false, 0, fun _ => 0)
def s_X4_weepAt : Sp := spc e_X4_weepAt 4
theorem m_X4_weepAt : monoE e_X4_weepAt := monoE_of (cons_all (p_X8_worthTo) (cons_all (p_X8_putWorth) nil_all))
theorem p_X4_weepAt : mono s_X4_weepAt := spc_mono m_X4_weepAt _
theorem k_X4_weepAt (l : Launch) : Con l y_X4_weepAt prog_6_method_6_code 4 (Option.none : Option Jvm.ClassFile.FieldType) { frames := 2, cells := 0, slots := 0, locals := 45 } 0 0 s_X4_weepAt := con_of l e_X4_weepAt y_X4_weepAt prog_6_method_6_code 4 (Option.none : Option Jvm.ClassFile.FieldType) _ (by decide +kernel) (cons_all (clV (k_X8_worthTo l) f_X8_worthTo ⟨rfl, rfl, Nat.le_of_ble_eq_true rfl, Nat.le_of_ble_eq_true rfl⟩ (mg 481 (by decide +kernel))) (cons_all (clV (k_X8_putWorth l) f_X8_putWorth ⟨rfl, rfl, Nat.le_of_ble_eq_true rfl, Nat.le_of_ble_eq_true rfl⟩ (mg 482 (by decide +kernel))) nil_all)) (Or.inl (by decide +kernel))
theorem f_X4_weepAt : calS y_X4_weepAt prog_6_method_6_code 4 (Option.none : Option Jvm.ClassFile.FieldType) 3 := ⟨⟨mem_g (i := 480) (by decide +kernel) rfl, mg 30 (by decide +kernel)⟩, by decide +kernel, by decide +kernel, mg 479 (by decide +kernel)⟩
def y_X4_actForClaque : MethodName := ⟨"ActsPaid$Programme", "actForClaque", "(LActsPaid$Stage;II)I"⟩
def t_X4_actForClaque : List (Nat × Ao) := [
  (0, (0, (-1), 0, 0, 0, 0, [])),
  (1, (13, 0, 0, 3, 0, 0, [])),
  (2, (0, 0, 0, 0, 0, 0, [])),
  (3, (14, 0, 0, 4, 0, 0, [])),
  (5, (0, 0, 0, 0, 0, 0, [])),
  (6, (14, 0, 0, 5, 0, 0, [])),
  (8, (8, 0, 0, 5, 0, 0, [])),
  (10, (9, 0, 0, 0, 0, 0, [])),
  (11, (55, 0, 0, 44, 224, 91, [])),
  (14, (50, 0, 0, 57, 0, 0, [])),
  (17, (9, 0, 0, 0, 0, 0, [])),
  (18, (8, 0, 0, 5, 0, 0, [])),
  (20, (7, 0, 0, 1, 0, 0, [])),
  (21, (63, 0, 0, 59, 0, 0, [])),
  (24, (9, 0, 0, 0, 0, 0, [])),
  (25, (62, 0, 0, 24, 0, 0, [])),
  (28, (14, 0, 0, 6, 0, 0, [])),
  (30, (9, 0, 0, 0, 0, 0, [])),
  (31, (8, 0, 0, 5, 0, 0, [])),
  (33, (7, 0, 0, 1, 0, 0, [])),
  (34, (24, 0, 0, 0, 0, 0, [])),
  (35, (63, 0, 0, 59, 0, 0, [])),
  (38, (8, 0, 0, 6, 0, 0, [])),
  (40, (7, 0, 0, 3, 0, 0, [])),
  (41, (52, 0, 0, 51, 0, 0, [])),
  (44, (8, 0, 0, 6, 0, 0, [])),
  (46, (13, 0, 0, 3, 0, 0, [])),
  (47, (8, 0, 0, 5, 0, 0, [])),
  (49, (14, 0, 0, 4, 0, 0, [])),
  (51, (39, 1, 0, 5, 0, 0, [])),
  (54, (40, 0, 0, 8, 0, 0, [])),
  (57, (7, 0, 0, 2, 0, 0, [])),
  (58, (42, 0, 0, 66, 0, 0, [])),
  (61, (8, 0, 0, 4, 0, 0, [])),
  (63, (40, 0, 0, 67, 0, 0, [])),
  (66, (7, 0, 0, 3, 0, 0, [])),
  (67, (64, 0, 0, 0, 0, 0, []))]
def e_X4_actForClaque : Ev := (t_X4_actForClaque, [(24, (1, 1, 0, 8, s_X8_allPay)), (59, (3, 0, 0, 0, s_X4_weepAt))], 1, 0, false, 0, fun _ => 0)
def s_X4_actForClaque : Sp := spc e_X4_actForClaque 7
theorem m_X4_actForClaque : monoE e_X4_actForClaque := monoE_of (cons_all (p_X8_allPay) (cons_all (p_X4_weepAt) nil_all))
theorem p_X4_actForClaque : mono s_X4_actForClaque := spc_mono m_X4_actForClaque _
theorem k_X4_actForClaque (l : Launch) : Con l y_X4_actForClaque prog_6_method_5_code 7 (Option.some Jvm.ClassFile.FieldType.int) { frames := 5, cells := 0, slots := 0, locals := 112 } 1 0 s_X4_actForClaque := con_of l e_X4_actForClaque y_X4_actForClaque prog_6_method_5_code 7 (Option.some Jvm.ClassFile.FieldType.int) _ (by decide +kernel) (cons_all (clV (k_X8_allPay l) f_X8_allPay ⟨rfl, rfl, Nat.le_of_ble_eq_true rfl, Nat.le_of_ble_eq_true rfl⟩ (mg 434 (by decide +kernel))) (cons_all (clS (k_X4_weepAt l) f_X4_weepAt ⟨rfl, rfl, Nat.le_of_ble_eq_true rfl, Nat.le_of_ble_eq_true rfl⟩ (mg 478 (by decide +kernel))) nil_all)) (Or.inl (by decide +kernel))
theorem f_X4_actForClaque : calS y_X4_actForClaque prog_6_method_5_code 7 (Option.some Jvm.ClassFile.FieldType.int) 3 := ⟨⟨mem_g (i := 477) (by decide +kernel) rfl, mg 30 (by decide +kernel)⟩, by decide +kernel, by decide +kernel, mg 476 (by decide +kernel)⟩
def y_X6_readLater : MethodName := ⟨"ActsPaid$Seats", "readLater", "(LActsPaid$Stage;)V"⟩
def t_X6_readLater : List (Nat × Ao) := [
  (0, (0, 0, 0, 0, 0, 0, [])),
  (1, (13, 0, 0, 2, 0, 0, [])),
  (2, (7, 0, 0, 2, 0, 0, [])),
  (3, (1, 8, 0, 0, 0, 0, [])),
  (5, (50, 0, 0, 71, 0, 0, [])),
  (8, (0, 0, 0, 0, 0, 0, [])),
  (9, (13, 0, 0, 3, 0, 0, [])),
  (10, (0, 0, 0, 0, 0, 0, [])),
  (11, (14, 0, 0, 4, 0, 0, [])),
  (13, (8, 0, 0, 4, 0, 0, [])),
  (15, (1, 8, 0, 0, 0, 0, [])),
  (17, (50, 0, 0, 56, 0, 0, [])),
  (20, (9, 0, 0, 1, 0, 0, [])),
  (21, (8, 0, 0, 4, 0, 0, [])),
  (23, (62, 0, 0, 40, 0, 0, [])),
  (26, (41, 0, 0, 50, 0, 0, [])),
  (29, (9, 0, 0, 1, 0, 0, [])),
  (30, (8, 0, 0, 4, 0, 0, [])),
  (32, (62, 0, 0, 44, 0, 0, [])),
  (35, (9, 0, 0, 1, 0, 0, [])),
  (36, (7, 0, 0, 2, 0, 0, [])),
  (37, (62, 0, 0, 44, 0, 0, [])),
  (40, (52, 0, 0, 50, 0, 0, [])),
  (43, (7, 0, 0, 3, 0, 0, [])),
  (44, (0, 1, 0, 0, 0, 0, [])),
  (45, (8, 0, 0, 4, 0, 0, [])),
  (47, (28, 0, 0, 0, 0, 0, [])),
  (48, (26, 0, 0, 0, 0, 0, [])),
  (49, (13, 0, 0, 3, 0, 0, [])),
  (50, (39, 1, 0, 4, 0, 0, [])),
  (53, (40, 0, 0, 13, 0, 0, [])),
  (56, (9, 0, 0, 0, 0, 0, [])),
  (57, (55, 0, 0, 15, 161, 181, [])),
  (60, (7, 0, 0, 2, 0, 0, [])),
  (61, (7, 0, 0, 3, 0, 0, [])),
  (62, (63, 0, 0, 48, 0, 0, [])),
  (65, (39, 1, 0, 2, 0, 0, [])),
  (68, (40, 0, 0, 2, 0, 0, [])),
  (71, (66, 0, 0, 0, 0, 0, []))]
def e_X6_readLater : Ev := (t_X6_readLater, [(40, (2, 1, 0, 8, s_X8_comes)), (44, (2, 1, 0, 8, s_X8_behind)), (48, (3, 0, 0, 0, s_X5_put))], 0, 0, false, 0, fun _ => 0)
def s_X6_readLater : Sp := spc e_X6_readLater 5
theorem m_X6_readLater : monoE e_X6_readLater := monoE_of (cons_all (p_X8_comes) (cons_all (p_X8_behind) (cons_all (p_X5_put) nil_all)))
theorem p_X6_readLater : mono s_X6_readLater := spc_mono m_X6_readLater _
theorem k_X6_readLater (l : Launch) : Con l y_X6_readLater prog_8_method_3_code 5 (Option.none : Option Jvm.ClassFile.FieldType) { frames := 3, cells := 0, slots := 0, locals := 69 } 0 0 s_X6_readLater := con_of l e_X6_readLater y_X6_readLater prog_8_method_3_code 5 (Option.none : Option Jvm.ClassFile.FieldType) _ (by decide +kernel) (cons_all (clV (k_X8_comes l) f_X8_comes ⟨rfl, rfl, Nat.le_of_ble_eq_true rfl, Nat.le_of_ble_eq_true rfl⟩ (mg 503 (by decide +kernel))) (cons_all (clV (k_X8_behind l) f_X8_behind ⟨rfl, rfl, Nat.le_of_ble_eq_true rfl, Nat.le_of_ble_eq_true rfl⟩ (mg 504 (by decide +kernel))) (cons_all (clS (k_X5_put l) f_X5_put ⟨rfl, rfl, Nat.le_of_ble_eq_true rfl, Nat.le_of_ble_eq_true rfl⟩ (mg 505 (by decide +kernel))) nil_all))) (Or.inl (by decide +kernel))
theorem f_X6_readLater : calV y_X6_readLater prog_8_method_3_code 5 (Option.none : Option Jvm.ClassFile.FieldType) 2 5 := ⟨⟨mem_g (i := 502) (by decide +kernel) rfl, mg 31 (by decide +kernel)⟩, by decide +kernel, by decide +kernel, by decide, mg 500 (by decide +kernel), mg 501 (by decide +kernel), _, rfl, rfl⟩
def y_X6_maySit : MethodName := ⟨"ActsPaid$Seats", "maySit", "(LActsPaid$Stage;III)Z"⟩
def t_X6_maySit : List (Nat × Ao) := [
  (0, (9, 0, 0, 0, 0, 0, [])),
  (1, (55, 0, 0, 75, 234, 119, [])),
  (4, (7, 0, 0, 3, 0, 0, [])),
  (5, (63, 0, 0, 66, 0, 0, [])),
  (8, (7, 0, 0, 1, 0, 0, [])),
  (9, (25, 0, 0, 0, 0, 0, [])),
  (10, (0, 1, 0, 0, 0, 0, [])),
  (11, (7, 0, 0, 2, 0, 0, [])),
  (12, (28, 0, 0, 0, 0, 0, [])),
  (13, (0, (-1), 0, 0, 0, 0, [])),
  (14, (27, 0, 0, 0, 0, 0, [])),
  (15, (25, 0, 0, 0, 0, 0, [])),
  (16, (14, 0, 0, 4, 0, 0, [])),
  (18, (9, 0, 0, 0, 0, 0, [])),
  (19, (7, 0, 0, 3, 0, 0, [])),
  (20, (62, 0, 0, 40, 0, 0, [])),
  (23, (41, 0, 0, 43, 0, 0, [])),
  (26, (7, 0, 0, 1, 0, 0, [])),
  (27, (7, 0, 0, 3, 0, 0, [])),
  (28, (29, 0, 0, 0, 0, 0, [])),
  (29, (0, 1, 0, 0, 0, 0, [])),
  (30, (25, 0, 0, 0, 0, 0, [])),
  (31, (42, 0, 0, 43, 0, 0, [])),
  (34, (8, 0, 0, 4, 0, 0, [])),
  (36, (42, 0, 0, 43, 0, 0, [])),
  (39, (0, 1, 0, 0, 0, 0, [])),
  (40, (40, 0, 0, 44, 0, 0, [])),
  (43, (0, 0, 0, 0, 0, 0, [])),
  (44, (64, 0, 0, 0, 0, 0, []))]
def e_X6_maySit : Ev := (t_X6_maySit, [(40, (2, 1, 0, 8, s_X8_comes)), (66, (2, 1, 0, 0, s_X5_at))], 4, 0, false, 0, fun _ => 0)
def s_X6_maySit : Sp := spc e_X6_maySit 5
theorem m_X6_maySit : monoE e_X6_maySit := monoE_of (cons_all (p_X8_comes) (cons_all (p_X5_at) nil_all))
theorem p_X6_maySit : mono s_X6_maySit := spc_mono m_X6_maySit _
theorem k_X6_maySit (l : Launch) : Con l y_X6_maySit prog_8_method_7_code 5 (Option.some Jvm.ClassFile.FieldType.boolean) { frames := 2, cells := 0, slots := 0, locals := 43 } 1 0 s_X6_maySit := con_of l e_X6_maySit y_X6_maySit prog_8_method_7_code 5 (Option.some Jvm.ClassFile.FieldType.boolean) _ (by decide +kernel) (cons_all (clV (k_X8_comes l) f_X8_comes ⟨rfl, rfl, Nat.le_of_ble_eq_true rfl, Nat.le_of_ble_eq_true rfl⟩ (mg 503 (by decide +kernel))) (cons_all (clS (k_X5_at l) f_X5_at ⟨rfl, rfl, Nat.le_of_ble_eq_true rfl, Nat.le_of_ble_eq_true rfl⟩ (mg 513 (by decide +kernel))) nil_all)) (Or.inl (by decide +kernel))
theorem f_X6_maySit : calS y_X6_maySit prog_8_method_7_code 5 (Option.some Jvm.ClassFile.FieldType.boolean) 4 := ⟨⟨mem_g (i := 512) (by decide +kernel) rfl, mg 31 (by decide +kernel)⟩, by decide +kernel, by decide +kernel, mg 511 (by decide +kernel)⟩
def y_X6_fewestBehind : MethodName := ⟨"ActsPaid$Seats", "fewestBehind", "(II)I"⟩
def t_X6_fewestBehind : List (Nat × Ao) := [
  (0, (9, 0, 0, 0, 0, 0, [])),
  (1, (55, 0, 0, 11, 160, 180, [])),
  (4, (7, 0, 0, 1, 0, 0, [])),
  (5, (1, 8, 0, 0, 0, 0, [])),
  (7, (21, 0, 0, 0, 0, 0, [])),
  (8, (7, 0, 0, 2, 0, 0, [])),
  (9, (19, 0, 0, 0, 0, 0, [])),
  (10, (63, 0, 0, 66, 0, 0, [])),
  (13, (64, 0, 0, 0, 0, 0, []))]
def e_X6_fewestBehind : Ev := (t_X6_fewestBehind, [(66, (2, 1, 0, 0, s_X5_at))], 1, 0, false, 0, fun _ => 0)
def s_X6_fewestBehind : Sp := spc e_X6_fewestBehind 3
theorem m_X6_fewestBehind : monoE e_X6_fewestBehind := monoE_of (cons_all (p_X5_at) nil_all)
theorem p_X6_fewestBehind : mono s_X6_fewestBehind := spc_mono m_X6_fewestBehind _
theorem k_X6_fewestBehind (l : Launch) : Con l y_X6_fewestBehind prog_8_method_5_code 3 (Option.some Jvm.ClassFile.FieldType.int) { frames := 1, cells := 0, slots := 0, locals := 21 } 1 0 s_X6_fewestBehind := con_of l e_X6_fewestBehind y_X6_fewestBehind prog_8_method_5_code 3 (Option.some Jvm.ClassFile.FieldType.int) _ (by decide +kernel) (cons_all (clS (k_X5_at l) f_X5_at ⟨rfl, rfl, Nat.le_of_ble_eq_true rfl, Nat.le_of_ble_eq_true rfl⟩ (mg 513 (by decide +kernel))) nil_all) (Or.inl (by decide +kernel))
theorem f_X6_fewestBehind : calV y_X6_fewestBehind prog_8_method_5_code 3 (Option.some Jvm.ClassFile.FieldType.int) 3 5 := ⟨⟨mem_g (i := 525) (by decide +kernel) rfl, mg 31 (by decide +kernel)⟩, by decide +kernel, by decide +kernel, by decide, mg 523 (by decide +kernel), mg 524 (by decide +kernel), _, rfl, rfl⟩
def y_X6_fewestWith : MethodName := ⟨"ActsPaid$Seats", "fewestWith", "(II)I"⟩
def t_X6_fewestWith : List (Nat × Ao) := [
  (0, (9, 0, 0, 0, 0, 0, [])),
  (1, (55, 0, 0, 15, 161, 181, [])),
  (4, (7, 0, 0, 2, 0, 0, [])),
  (5, (63, 0, 0, 66, 0, 0, [])),
  (8, (13, 0, 0, 3, 0, 0, [])),
  (9, (7, 0, 0, 3, 0, 0, [])),
  (10, (7, 0, 0, 1, 0, 0, [])),
  (11, (25, 0, 0, 0, 0, 0, [])),
  (12, (63, 0, 0, 70, 0, 0, [])),
  (15, (7, 0, 0, 3, 0, 0, [])),
  (16, (7, 0, 0, 1, 0, 0, [])),
  (17, (0, (-1), 0, 0, 0, 0, [])),
  (18, (27, 0, 0, 0, 0, 0, [])),
  (19, (25, 0, 0, 0, 0, 0, [])),
  (20, (63, 0, 0, 70, 0, 0, [])),
  (23, (70, 0, 0, 61, 0, 519, [])),
  (26, (14, 0, 0, 4, 0, 0, [])),
  (28, (8, 0, 0, 4, 0, 0, [])),
  (30, (9, 0, 0, 0, 0, 0, [])),
  (31, (7, 0, 0, 1, 0, 0, [])),
  (32, (0, 1, 0, 0, 0, 0, [])),
  (33, (7, 0, 0, 2, 0, 0, [])),
  (34, (28, 0, 0, 0, 0, 0, [])),
  (35, (26, 0, 0, 0, 0, 0, [])),
  (36, (7, 0, 0, 2, 0, 0, [])),
  (37, (62, 0, 0, 32, 0, 0, [])),
  (40, (19, 0, 0, 0, 0, 0, [])),
  (41, (64, 0, 0, 0, 0, 0, []))]
def e_X6_fewestWith : Ev := (t_X6_fewestWith, [(32, (3, 1, 0, 6, s_X6_fewestBehind)), (66, (2, 1, 0, 0, s_X5_at)), (70, (1, 1, 0, 0, s_J6_bitCount))], 1, 0, false, 0, fun _ => 0)
def s_X6_fewestWith : Sp := spc e_X6_fewestWith 5
theorem m_X6_fewestWith : monoE e_X6_fewestWith := monoE_of (cons_all (p_X6_fewestBehind) (cons_all (p_X5_at) (cons_all (p_J6_bitCount) nil_all)))
theorem p_X6_fewestWith : mono s_X6_fewestWith := spc_mono m_X6_fewestWith _
theorem k_X6_fewestWith (l : Launch) : Con l y_X6_fewestWith prog_8_method_6_code 5 (Option.some Jvm.ClassFile.FieldType.int) { frames := 2, cells := 0, slots := 0, locals := 43 } 1 0 s_X6_fewestWith := con_of l e_X6_fewestWith y_X6_fewestWith prog_8_method_6_code 5 (Option.some Jvm.ClassFile.FieldType.int) _ (by decide +kernel) (cons_all (clV (k_X6_fewestBehind l) f_X6_fewestBehind ⟨rfl, rfl, Nat.le_of_ble_eq_true rfl, Nat.le_of_ble_eq_true rfl⟩ (mg 522 (by decide +kernel))) (cons_all (clS (k_X5_at l) f_X5_at ⟨rfl, rfl, Nat.le_of_ble_eq_true rfl, Nat.le_of_ble_eq_true rfl⟩ (mg 513 (by decide +kernel))) (cons_all (clS (k_J6_bitCount l) f_J6_bitCount ⟨rfl, rfl, Nat.le_of_ble_eq_true rfl, Nat.le_of_ble_eq_true rfl⟩ (mg 518 (by decide +kernel))) nil_all))) (Or.inr (by decide))
theorem f_X6_fewestWith : calV y_X6_fewestWith prog_8_method_6_code 5 (Option.some Jvm.ClassFile.FieldType.int) 3 5 := ⟨⟨mem_g (i := 517) (by decide +kernel) rfl, mg 31 (by decide +kernel)⟩, by decide +kernel, by decide +kernel, by decide, mg 515 (by decide +kernel), mg 516 (by decide +kernel), _, rfl, rfl⟩
def y_X6_fillBehind : MethodName := ⟨"ActsPaid$Seats", "fillBehind", "(LActsPaid$Stage;I)V"⟩
def t_X6_fillBehind : List (Nat × Ao) := [
  (0, (0, 0, 0, 0, 0, 0, [])),
  (1, (13, 0, 0, 3, 0, 0, [])),
  (2, (7, 0, 0, 3, 0, 0, [])),
  (3, (1, 8, 0, 0, 0, 0, [])),
  (5, (50, 0, 0, 87, 0, 0, [])),
  (8, (7, 0, 0, 2, 0, 0, [])),
  (9, (9, 0, 0, 1, 0, 0, [])),
  (10, (55, 0, 0, 22, 229, 106, [])),
  (13, (48, 0, 0, 20, 0, 0, [])),
  (16, (0, 0, 0, 0, 0, 0, [])),
  (17, (40, 0, 0, 23, 0, 0, [])),
  (20, (2, 1000, 0, 0, 0, 0, [])),
  (23, (14, 0, 0, 4, 0, 0, [])),
  (25, (0, 0, 0, 0, 0, 0, [])),
  (26, (14, 0, 0, 5, 0, 0, [])),
  (28, (8, 0, 0, 5, 0, 0, [])),
  (30, (1, 8, 0, 0, 0, 0, [])),
  (32, (50, 0, 0, 66, 0, 0, [])),
  (35, (9, 0, 0, 1, 0, 0, [])),
  (36, (7, 0, 0, 2, 0, 0, [])),
  (37, (7, 0, 0, 3, 0, 0, [])),
  (38, (8, 0, 0, 5, 0, 0, [])),
  (40, (63, 0, 0, 54, 0, 0, [])),
  (43, (41, 0, 0, 60, 0, 0, [])),
  (46, (8, 0, 0, 4, 0, 0, [])),
  (48, (9, 0, 0, 0, 0, 0, [])),
  (49, (7, 0, 0, 2, 0, 0, [])),
  (50, (8, 0, 0, 5, 0, 0, [])),
  (52, (62, 0, 0, 58, 0, 0, [])),
  (55, (70, 0, 0, 61, 0, 519, [])),
  (58, (14, 0, 0, 4, 0, 0, [])),
  (60, (39, 1, 0, 5, 0, 0, [])),
  (63, (40, 0, 0, 28, 0, 0, [])),
  (66, (9, 0, 0, 0, 0, 0, [])),
  (67, (55, 0, 0, 11, 160, 180, [])),
  (70, (7, 0, 0, 2, 0, 0, [])),
  (71, (1, 8, 0, 0, 0, 0, [])),
  (73, (21, 0, 0, 0, 0, 0, [])),
  (74, (7, 0, 0, 3, 0, 0, [])),
  (75, (19, 0, 0, 0, 0, 0, [])),
  (76, (8, 0, 0, 4, 0, 0, [])),
  (78, (63, 0, 0, 48, 0, 0, [])),
  (81, (39, 1, 0, 3, 0, 0, [])),
  (84, (40, 0, 0, 2, 0, 0, [])),
  (87, (66, 0, 0, 0, 0, 0, []))]
def e_X6_fillBehind : Ev := (t_X6_fillBehind, [(48, (3, 0, 0, 0, s_X5_put)), (54, (4, 1, 0, 0, s_X6_maySit)), (58, (3, 1, 0, 6, s_X6_fewestWith))], 0, 0, false, 0, fun _ => 0)
def s_X6_fillBehind : Sp := spc e_X6_fillBehind 6
theorem m_X6_fillBehind : monoE e_X6_fillBehind := monoE_of (cons_all (p_X5_put) (cons_all (p_X6_maySit) (cons_all (p_X6_fewestWith) nil_all)))
theorem p_X6_fillBehind : mono s_X6_fillBehind := spc_mono m_X6_fillBehind _
theorem k_X6_fillBehind (l : Launch) : Con l y_X6_fillBehind prog_8_method_4_code 6 (Option.none : Option Jvm.ClassFile.FieldType) { frames := 3, cells := 0, slots := 0, locals := 67 } 0 0 s_X6_fillBehind := con_of l e_X6_fillBehind y_X6_fillBehind prog_8_method_4_code 6 (Option.none : Option Jvm.ClassFile.FieldType) _ (by decide +kernel) (cons_all (clS (k_X5_put l) f_X5_put ⟨rfl, rfl, Nat.le_of_ble_eq_true rfl, Nat.le_of_ble_eq_true rfl⟩ (mg 505 (by decide +kernel))) (cons_all (clS (k_X6_maySit l) f_X6_maySit ⟨rfl, rfl, Nat.le_of_ble_eq_true rfl, Nat.le_of_ble_eq_true rfl⟩ (mg 510 (by decide +kernel))) (cons_all (clV (k_X6_fewestWith l) f_X6_fewestWith ⟨rfl, rfl, Nat.le_of_ble_eq_true rfl, Nat.le_of_ble_eq_true rfl⟩ (mg 514 (by decide +kernel))) nil_all))) (Or.inr (by decide))
theorem f_X6_fillBehind : calV y_X6_fillBehind prog_8_method_4_code 6 (Option.none : Option Jvm.ClassFile.FieldType) 3 5 := ⟨⟨mem_g (i := 509) (by decide +kernel) rfl, mg 31 (by decide +kernel)⟩, by decide +kernel, by decide +kernel, by decide, mg 507 (by decide +kernel), mg 508 (by decide +kernel), _, rfl, rfl⟩
def y_X6_firstOfFewest : MethodName := ⟨"ActsPaid$Seats", "firstOfFewest", "(LActsPaid$Stage;II)I"⟩
def t_X6_firstOfFewest : List (Nat × Ao) := [
  (0, (9, 0, 0, 0, 0, 0, [])),
  (1, (7, 0, 0, 2, 0, 0, [])),
  (2, (7, 0, 0, 3, 0, 0, [])),
  (3, (62, 0, 0, 32, 0, 0, [])),
  (6, (14, 0, 0, 4, 0, 0, [])),
  (8, (0, 0, 0, 0, 0, 0, [])),
  (9, (14, 0, 0, 5, 0, 0, [])),
  (11, (8, 0, 0, 5, 0, 0, [])),
  (13, (1, 8, 0, 0, 0, 0, [])),
  (15, (50, 0, 0, 50, 0, 0, [])),
  (18, (9, 0, 0, 1, 0, 0, [])),
  (19, (7, 0, 0, 2, 0, 0, [])),
  (20, (7, 0, 0, 3, 0, 0, [])),
  (21, (8, 0, 0, 5, 0, 0, [])),
  (23, (63, 0, 0, 54, 0, 0, [])),
  (26, (41, 0, 0, 44, 0, 0, [])),
  (29, (9, 0, 0, 0, 0, 0, [])),
  (30, (7, 0, 0, 2, 0, 0, [])),
  (31, (8, 0, 0, 5, 0, 0, [])),
  (33, (62, 0, 0, 58, 0, 0, [])),
  (36, (8, 0, 0, 4, 0, 0, [])),
  (38, (48, 0, 0, 44, 0, 0, [])),
  (41, (8, 0, 0, 5, 0, 0, [])),
  (43, (64, 0, 0, 0, 0, 0, [])),
  (44, (39, 1, 0, 5, 0, 0, [])),
  (47, (40, 0, 0, 11, 0, 0, [])),
  (50, (7, 0, 0, 3, 0, 0, [])),
  (51, (64, 0, 0, 0, 0, 0, []))]
def e_X6_firstOfFewest : Ev := (t_X6_firstOfFewest, [(32, (3, 1, 0, 6, s_X6_fewestBehind)), (54, (4, 1, 0, 0, s_X6_maySit)), (58, (3, 1, 0, 6, s_X6_fewestWith))], 1, 0, false, 0, fun _ => 0)
def s_X6_firstOfFewest : Sp := spc e_X6_firstOfFewest 6
theorem m_X6_firstOfFewest : monoE e_X6_firstOfFewest := monoE_of (cons_all (p_X6_fewestBehind) (cons_all (p_X6_maySit) (cons_all (p_X6_fewestWith) nil_all)))
theorem p_X6_firstOfFewest : mono s_X6_firstOfFewest := spc_mono m_X6_firstOfFewest _
theorem k_X6_firstOfFewest (l : Launch) : Con l y_X6_firstOfFewest prog_8_method_9_code 6 (Option.some Jvm.ClassFile.FieldType.int) { frames := 3, cells := 0, slots := 0, locals := 67 } 1 0 s_X6_firstOfFewest := con_of l e_X6_firstOfFewest y_X6_firstOfFewest prog_8_method_9_code 6 (Option.some Jvm.ClassFile.FieldType.int) _ (by decide +kernel) (cons_all (clV (k_X6_fewestBehind l) f_X6_fewestBehind ⟨rfl, rfl, Nat.le_of_ble_eq_true rfl, Nat.le_of_ble_eq_true rfl⟩ (mg 522 (by decide +kernel))) (cons_all (clS (k_X6_maySit l) f_X6_maySit ⟨rfl, rfl, Nat.le_of_ble_eq_true rfl, Nat.le_of_ble_eq_true rfl⟩ (mg 510 (by decide +kernel))) (cons_all (clV (k_X6_fewestWith l) f_X6_fewestWith ⟨rfl, rfl, Nat.le_of_ble_eq_true rfl, Nat.le_of_ble_eq_true rfl⟩ (mg 514 (by decide +kernel))) nil_all))) (Or.inl (by decide +kernel))
theorem f_X6_firstOfFewest : calV y_X6_firstOfFewest prog_8_method_9_code 6 (Option.some Jvm.ClassFile.FieldType.int) 4 5 := ⟨⟨mem_g (i := 533) (by decide +kernel) rfl, mg 31 (by decide +kernel)⟩, by decide +kernel, by decide +kernel, by decide, mg 531 (by decide +kernel), mg 532 (by decide +kernel), _, rfl, rfl⟩
def y_X6_guestOnSeat : MethodName := ⟨"ActsPaid$Seats", "guestOnSeat", "(LActsPaid$Stage;I)I"⟩
def t_X6_guestOnSeat : List (Nat × Ao) := [
  (0, (0, 0, 0, 0, 0, 0, [])),
  (1, (13, 0, 0, 3, 0, 0, [])),
  (2, (0, 0, 0, 0, 0, 0, [])),
  (3, (14, 0, 0, 4, 0, 0, [])),
  (5, (0, 0, 0, 0, 0, 0, [])),
  (6, (14, 0, 0, 5, 0, 0, [])),
  (8, (8, 0, 0, 5, 0, 0, [])),
  (10, (9, 0, 0, 1, 0, 0, [])),
  (11, (55, 0, 0, 22, 229, 106, [])),
  (14, (63, 0, 0, 70, 0, 0, [])),
  (17, (50, 0, 0, 52, 0, 0, [])),
  (20, (9, 0, 0, 0, 0, 0, [])),
  (21, (9, 0, 0, 1, 0, 0, [])),
  (22, (7, 0, 0, 3, 0, 0, [])),
  (23, (8, 0, 0, 4, 0, 0, [])),
  (25, (62, 0, 0, 78, 0, 0, [])),
  (28, (14, 0, 0, 4, 0, 0, [])),
  (30, (7, 0, 0, 3, 0, 0, [])),
  (31, (0, 1, 0, 0, 0, 0, [])),
  (32, (8, 0, 0, 4, 0, 0, [])),
  (34, (28, 0, 0, 0, 0, 0, [])),
  (35, (26, 0, 0, 0, 0, 0, [])),
  (36, (13, 0, 0, 3, 0, 0, [])),
  (37, (8, 0, 0, 5, 0, 0, [])),
  (39, (7, 0, 0, 2, 0, 0, [])),
  (40, (48, 0, 0, 46, 0, 0, [])),
  (43, (8, 0, 0, 4, 0, 0, [])),
  (45, (64, 0, 0, 0, 0, 0, [])),
  (46, (39, 1, 0, 5, 0, 0, [])),
  (49, (40, 0, 0, 8, 0, 0, [])),
  (52, (1, (-6), 0, 0, 0, 0, [])),
  (54, (64, 0, 0, 0, 0, 0, []))]
def e_X6_guestOnSeat : Ev := (t_X6_guestOnSeat, [(70, (1, 1, 0, 0, s_J6_bitCount)), (78, (4, 1, 0, 6, s_X6_firstOfFewest))], 1, 0, false, 0, fun _ => 0)
def s_X6_guestOnSeat : Sp := spc e_X6_guestOnSeat 6
theorem m_X6_guestOnSeat : monoE e_X6_guestOnSeat := monoE_of (cons_all (p_J6_bitCount) (cons_all (p_X6_firstOfFewest) nil_all))
theorem p_X6_guestOnSeat : mono s_X6_guestOnSeat := spc_mono m_X6_guestOnSeat _
theorem k_X6_guestOnSeat (l : Launch) : Con l y_X6_guestOnSeat prog_8_method_8_code 6 (Option.some Jvm.ClassFile.FieldType.int) { frames := 4, cells := 0, slots := 0, locals := 92 } 1 0 s_X6_guestOnSeat := con_of l e_X6_guestOnSeat y_X6_guestOnSeat prog_8_method_8_code 6 (Option.some Jvm.ClassFile.FieldType.int) _ (by decide +kernel) (cons_all (clS (k_J6_bitCount l) f_J6_bitCount ⟨rfl, rfl, Nat.le_of_ble_eq_true rfl, Nat.le_of_ble_eq_true rfl⟩ (mg 518 (by decide +kernel))) (cons_all (clV (k_X6_firstOfFewest l) f_X6_firstOfFewest ⟨rfl, rfl, Nat.le_of_ble_eq_true rfl, Nat.le_of_ble_eq_true rfl⟩ (mg 530 (by decide +kernel))) nil_all)) (Or.inl (by decide +kernel))
theorem f_X6_guestOnSeat : calV y_X6_guestOnSeat prog_8_method_8_code 6 (Option.some Jvm.ClassFile.FieldType.int) 3 5 := ⟨⟨mem_g (i := 529) (by decide +kernel) rfl, mg 31 (by decide +kernel)⟩, by decide +kernel, by decide +kernel, by decide, mg 527 (by decide +kernel), mg 528 (by decide +kernel), _, rfl, rfl⟩
