def y_X6_seated : MethodName := ⟨"ActsPaid$Seats", "seated", "(LActsPaid$Stage;I)I"⟩
def t_X6_seated : List (Nat × Ao) := [
  (0, (9, 0, 0, 0, 0, 0, [])),
  (1, (9, 0, 0, 1, 0, 0, [])),
  (2, (62, 0, 0, 18, 0, 0, [])),
  (5, (9, 0, 0, 1, 0, 0, [])),
  (6, (55, 0, 0, 22, 229, 106, [])),
  (9, (13, 0, 0, 3, 0, 0, [])),
  (10, (7, 0, 0, 3, 0, 0, [])),
  (11, (43, 0, 0, 37, 0, 0, [])),
  (14, (7, 0, 0, 3, 0, 0, [])),
  (15, (9, 0, 0, 1, 0, 0, [])),
  (16, (55, 0, 0, 22, 229, 106, [])),
  (19, (0, (-1), 0, 0, 0, 0, [])),
  (20, (27, 0, 0, 0, 0, 0, [])),
  (21, (25, 0, 0, 0, 0, 0, [])),
  (22, (42, 0, 0, 31, 0, 0, [])),
  (25, (9, 0, 0, 0, 0, 0, [])),
  (26, (9, 0, 0, 1, 0, 0, [])),
  (27, (7, 0, 0, 3, 0, 0, [])),
  (28, (62, 0, 0, 28, 0, 0, [])),
  (31, (39, (-1), 0, 3, 0, 0, [])),
  (34, (40, 0, 0, 10, 0, 0, [])),
  (37, (9, 0, 0, 0, 0, 0, [])),
  (38, (0, 0, 0, 0, 0, 0, [])),
  (39, (0, 0, 0, 0, 0, 0, [])),
  (40, (62, 0, 0, 32, 0, 0, [])),
  (43, (13, 0, 0, 3, 0, 0, [])),
  (44, (7, 0, 0, 3, 0, 0, [])),
  (45, (2, 1000, 0, 0, 0, 0, [])),
  (48, (49, 0, 0, 54, 0, 0, [])),
  (51, (1, (-6), 0, 0, 0, 0, [])),
  (53, (64, 0, 0, 0, 0, 0, [])),
  (54, (7, 0, 0, 2, 0, 0, [])),
  (55, (0, (-1), 0, 0, 0, 0, [])),
  (56, (48, 0, 0, 63, 0, 0, [])),
  (59, (7, 0, 0, 3, 0, 0, [])),
  (60, (40, 0, 0, 69, 0, 0, [])),
  (63, (9, 0, 0, 0, 0, 0, [])),
  (64, (9, 0, 0, 1, 0, 0, [])),
  (65, (7, 0, 0, 2, 0, 0, [])),
  (66, (62, 0, 0, 36, 0, 0, [])),
  (69, (64, 0, 0, 0, 0, 0, []))]
def e_X6_seated : Ev := (t_X6_seated, [(18, (2, 0, 0, 6, s_X6_readLater)), (28, (3, 0, 0, 6, s_X6_fillBehind)), (32, (3, 1, 0, 6, s_X6_fewestBehind)), (36, (3, 1, 0, 6, s_X6_guestOnSeat))], 1, 0, false, 0, fun _ => 0)
def s_X6_seated : Sp := spc e_X6_seated 4
theorem m_X6_seated : monoE e_X6_seated := monoE_of (cons_all (p_X6_readLater) (cons_all (p_X6_fillBehind) (cons_all (p_X6_fewestBehind) (cons_all (p_X6_guestOnSeat) nil_all))))
theorem p_X6_seated : mono s_X6_seated := spc_mono m_X6_seated _
theorem k_X6_seated (l : Launch) : Con l y_X6_seated prog_8_method_2_code 4 (Option.some Jvm.ClassFile.FieldType.int) { frames := 5, cells := 0, slots := 0, locals := 117 } 1 0 s_X6_seated := con_of l e_X6_seated y_X6_seated prog_8_method_2_code 4 (Option.some Jvm.ClassFile.FieldType.int) _ (by decide +kernel) (cons_all (clV (k_X6_readLater l) f_X6_readLater ⟨rfl, rfl, Nat.le_of_ble_eq_true rfl, Nat.le_of_ble_eq_true rfl⟩ (mg 499 (by decide +kernel))) (cons_all (clV (k_X6_fillBehind l) f_X6_fillBehind ⟨rfl, rfl, Nat.le_of_ble_eq_true rfl, Nat.le_of_ble_eq_true rfl⟩ (mg 506 (by decide +kernel))) (cons_all (clV (k_X6_fewestBehind l) f_X6_fewestBehind ⟨rfl, rfl, Nat.le_of_ble_eq_true rfl, Nat.le_of_ble_eq_true rfl⟩ (mg 522 (by decide +kernel))) (cons_all (clV (k_X6_guestOnSeat l) f_X6_guestOnSeat ⟨rfl, rfl, Nat.le_of_ble_eq_true rfl, Nat.le_of_ble_eq_true rfl⟩ (mg 526 (by decide +kernel))) nil_all)))) (Or.inl (by decide +kernel))
theorem f_X6_seated : calV y_X6_seated prog_8_method_2_code 4 (Option.some Jvm.ClassFile.FieldType.int) 3 5 := ⟨⟨mem_g (i := 498) (by decide +kernel) rfl, mg 31 (by decide +kernel)⟩, by decide +kernel, by decide +kernel, by decide, mg 496 (by decide +kernel), mg 497 (by decide +kernel), _, rfl, rfl⟩
def y_X7_copyFrom : MethodName := ⟨"ActsPaid$Sights", "copyFrom", "(LActsPaid$Sights;)V"⟩
def t_X7_copyFrom : List (Nat × Ao) := [
  (0, (9, 0, 0, 0, 0, 0, [])),
  (1, (9, 0, 0, 1, 0, 0, [])),
  (2, (55, 0, 0, 21, 192, 73, [])),
  (5, (56, 0, 0, 21, 192, 73, [])),
  (8, (9, 0, 0, 1, 0, 0, [])),
  (9, (55, 0, 0, 9, 193, 76, [])),
  (12, (9, 0, 0, 0, 0, 0, [])),
  (13, (55, 0, 0, 9, 193, 76, [])),
  (16, (63, 0, 0, 25, 0, 0, [])),
  (19, (9, 0, 0, 1, 0, 0, [])),
  (20, (55, 0, 0, 15, 194, 77, [])),
  (23, (9, 0, 0, 0, 0, 0, [])),
  (24, (55, 0, 0, 15, 194, 77, [])),
  (27, (63, 0, 0, 25, 0, 0, [])),
  (30, (9, 0, 0, 1, 0, 0, [])),
  (31, (55, 0, 0, 18, 195, 78, [])),
  (34, (9, 0, 0, 0, 0, 0, [])),
  (35, (55, 0, 0, 18, 195, 78, [])),
  (38, (63, 0, 0, 25, 0, 0, [])),
  (41, (66, 0, 0, 0, 0, 0, []))]
def e_X7_copyFrom : Ev := (t_X7_copyFrom, [(25, (2, 0, 0, 0, s_X5_copy))], 0, 0, false, 0, fun _ => 0)
def s_X7_copyFrom : Sp := spc e_X7_copyFrom 2
theorem m_X7_copyFrom : monoE e_X7_copyFrom := monoE_of (cons_all (p_X5_copy) nil_all)
theorem p_X7_copyFrom : mono s_X7_copyFrom := spc_mono m_X7_copyFrom _
theorem k_X7_copyFrom (l : Launch) : Con l y_X7_copyFrom prog_9_method_2_code 2 (Option.none : Option Jvm.ClassFile.FieldType) { frames := 1, cells := 0, slots := 0, locals := 22 } 0 0 s_X7_copyFrom := con_of l e_X7_copyFrom y_X7_copyFrom prog_9_method_2_code 2 (Option.none : Option Jvm.ClassFile.FieldType) _ (by decide +kernel) (cons_all (clS (k_X5_copy l) f_X5_copy ⟨rfl, rfl, Nat.le_of_ble_eq_true rfl, Nat.le_of_ble_eq_true rfl⟩ (mg 430 (by decide +kernel))) nil_all) (Or.inl (by decide +kernel))
theorem f_X7_copyFrom : calV y_X7_copyFrom prog_9_method_2_code 2 (Option.none : Option Jvm.ClassFile.FieldType) 2 6 := ⟨⟨mem_g (i := 429) (by decide +kernel) rfl, mg 28 (by decide +kernel)⟩, by decide +kernel, by decide +kernel, by decide, mg 427 (by decide +kernel), mg 428 (by decide +kernel), _, rfl, rfl⟩
def y_X7_add : MethodName := ⟨"ActsPaid$Sights", "add", "(III)Z"⟩
def t_X7_add : List (Nat × Ao) := [
  (0, (9, 0, 0, 0, 0, 0, [])),
  (1, (55, 0, 0, 21, 192, 73, [])),
  (4, (1, 6, 0, 0, 0, 0, [])),
  (6, (49, 0, 0, 11, 0, 0, [])),
  (9, (0, 0, 0, 0, 0, 0, [])),
  (10, (64, 0, 0, 0, 0, 0, [])),
  (11, (9, 0, 0, 0, 0, 0, [])),
  (12, (55, 0, 0, 9, 193, 76, [])),
  (15, (9, 0, 0, 0, 0, 0, [])),
  (16, (55, 0, 0, 21, 192, 73, [])),
  (19, (7, 0, 0, 1, 0, 0, [])),
  (20, (63, 0, 0, 31, 0, 0, [])),
  (23, (9, 0, 0, 0, 0, 0, [])),
  (24, (55, 0, 0, 15, 194, 77, [])),
  (27, (9, 0, 0, 0, 0, 0, [])),
  (28, (55, 0, 0, 21, 192, 73, [])),
  (31, (7, 0, 0, 2, 0, 0, [])),
  (32, (63, 0, 0, 31, 0, 0, [])),
  (35, (9, 0, 0, 0, 0, 0, [])),
  (36, (55, 0, 0, 18, 195, 78, [])),
  (39, (9, 0, 0, 0, 0, 0, [])),
  (40, (55, 0, 0, 21, 192, 73, [])),
  (43, (7, 0, 0, 3, 0, 0, [])),
  (44, (63, 0, 0, 31, 0, 0, [])),
  (47, (9, 0, 0, 0, 0, 0, [])),
  (48, (37, 0, 0, 0, 0, 0, [])),
  (49, (55, 0, 0, 21, 192, 73, [])),
  (52, (0, 1, 0, 0, 0, 0, [])),
  (53, (19, 0, 0, 0, 0, 0, [])),
  (54, (56, 0, 0, 21, 192, 73, [])),
  (57, (0, 1, 0, 0, 0, 0, [])),
  (58, (64, 0, 0, 0, 0, 0, []))]
def e_X7_add : Ev := (t_X7_add, [(31, (3, 0, 0, 0, s_X5_put))], 4, 0, false, 0, fun _ => 0)
def s_X7_add : Sp := spc e_X7_add 4
theorem m_X7_add : monoE e_X7_add := monoE_of (cons_all (p_X5_put) nil_all)
theorem p_X7_add : mono s_X7_add := spc_mono m_X7_add _
theorem k_X7_add (l : Launch) : Con l y_X7_add prog_9_method_3_code 4 (Option.some Jvm.ClassFile.FieldType.boolean) { frames := 1, cells := 0, slots := 0, locals := 22 } 1 0 s_X7_add := con_of l e_X7_add y_X7_add prog_9_method_3_code 4 (Option.some Jvm.ClassFile.FieldType.boolean) _ (by decide +kernel) (cons_all (clS (k_X5_put l) f_X5_put ⟨rfl, rfl, Nat.le_of_ble_eq_true rfl, Nat.le_of_ble_eq_true rfl⟩ (mg 582 (by decide +kernel))) nil_all) (Or.inl (by decide +kernel))
theorem f_X7_add : calV y_X7_add prog_9_method_3_code 4 (Option.some Jvm.ClassFile.FieldType.boolean) 4 6 := ⟨⟨mem_g (i := 581) (by decide +kernel) rfl, mg 28 (by decide +kernel)⟩, by decide +kernel, by decide +kernel, by decide, mg 579 (by decide +kernel), mg 580 (by decide +kernel), _, rfl, rfl⟩
def y_X7_allow : MethodName := ⟨"ActsPaid$Sights", "allow", "(LActsPaid$Stage;I)Z"⟩
def t_X7_allow : List (Nat × Ao) := [
  (0, (0, 0, 0, 0, 0, 0, [])),
  (1, (13, 0, 0, 3, 0, 0, [])),
  (2, (7, 0, 0, 3, 0, 0, [])),
  (3, (9, 0, 0, 0, 0, 0, [])),
  (4, (55, 0, 0, 21, 192, 73, [])),
  (7, (50, 0, 0, 58, 0, 0, [])),
  (10, (9, 0, 0, 0, 0, 0, [])),
  (11, (55, 0, 0, 9, 193, 76, [])),
  (14, (7, 0, 0, 3, 0, 0, [])),
  (15, (63, 0, 0, 35, 0, 0, [])),
  (18, (7, 0, 0, 2, 0, 0, [])),
  (19, (48, 0, 0, 52, 0, 0, [])),
  (22, (9, 0, 0, 1, 0, 0, [])),
  (23, (9, 0, 0, 0, 0, 0, [])),
  (24, (55, 0, 0, 18, 195, 78, [])),
  (27, (7, 0, 0, 3, 0, 0, [])),
  (28, (63, 0, 0, 35, 0, 0, [])),
  (31, (56, 0, 0, 39, 225, 95, [])),
  (34, (9, 0, 0, 1, 0, 0, [])),
  (35, (7, 0, 0, 2, 0, 0, [])),
  (36, (62, 0, 0, 44, 0, 0, [])),
  (39, (9, 0, 0, 0, 0, 0, [])),
  (40, (55, 0, 0, 15, 194, 77, [])),
  (43, (7, 0, 0, 3, 0, 0, [])),
  (44, (63, 0, 0, 35, 0, 0, [])),
  (47, (47, 0, 0, 52, 0, 0, [])),
  (50, (0, 0, 0, 0, 0, 0, [])),
  (51, (64, 0, 0, 0, 0, 0, [])),
  (52, (39, 1, 0, 3, 0, 0, [])),
  (55, (40, 0, 0, 2, 0, 0, [])),
  (58, (0, 1, 0, 0, 0, 0, [])),
  (59, (64, 0, 0, 0, 0, 0, []))]
def e_X7_allow : Ev := (t_X7_allow, [(35, (2, 1, 0, 0, s_X5_at)), (44, (2, 1, 0, 8, s_X8_behind))], 4, 0, false, 0, fun _ => 0)
def s_X7_allow : Sp := spc e_X7_allow 4
theorem m_X7_allow : monoE e_X7_allow := monoE_of (cons_all (p_X5_at) (cons_all (p_X8_behind) nil_all))
theorem p_X7_allow : mono s_X7_allow := spc_mono m_X7_allow _
theorem k_X7_allow (l : Launch) : Con l y_X7_allow prog_9_method_4_code 4 (Option.some Jvm.ClassFile.FieldType.boolean) { frames := 3, cells := 0, slots := 0, locals := 69 } 1 0 s_X7_allow := con_of l e_X7_allow y_X7_allow prog_9_method_4_code 4 (Option.some Jvm.ClassFile.FieldType.boolean) _ (by decide +kernel) (cons_all (clS (k_X5_at l) f_X5_at ⟨rfl, rfl, Nat.le_of_ble_eq_true rfl, Nat.le_of_ble_eq_true rfl⟩ (mg 599 (by decide +kernel))) (cons_all (clV (k_X8_behind l) f_X8_behind ⟨rfl, rfl, Nat.le_of_ble_eq_true rfl, Nat.le_of_ble_eq_true rfl⟩ (mg 600 (by decide +kernel))) nil_all)) (Or.inl (by decide +kernel))
theorem f_X7_allow : calV y_X7_allow prog_9_method_4_code 4 (Option.some Jvm.ClassFile.FieldType.boolean) 3 6 := ⟨⟨mem_g (i := 598) (by decide +kernel) rfl, mg 28 (by decide +kernel)⟩, by decide +kernel, by decide +kernel, by decide, mg 596 (by decide +kernel), mg 597 (by decide +kernel), _, rfl, rfl⟩
def y_X7_worthsThatFit : MethodName := ⟨"ActsPaid$Sights", "worthsThatFit", "(LActsPaid$Stage;III)I"⟩
def t_X7_worthsThatFit : List (Nat × Ao) := [
  (0, (0, 0, 0, 0, 0, 0, [])),
  (1, (14, 0, 0, 4, 0, 0, [])),
  (3, (1, (-6), 0, 0, 0, 0, [])),
  (5, (14, 0, 0, 5, 0, 0, [])),
  (7, (1, (-6), 0, 0, 0, 0, [])),
  (9, (14, 0, 0, 6, 0, 0, [])),
  (11, (1, (-10), 0, 0, 0, 0, [])),
  (13, (14, 0, 0, 7, 0, 0, [])),
  (15, (8, 0, 0, 7, 0, 0, [])),
  (17, (1, 25, 0, 0, 0, 0, [])),
  (19, (51, 0, 0, 72, 0, 0, [])),
  (22, (9, 0, 0, 0, 0, 0, [])),
  (23, (7, 0, 0, 1, 0, 0, [])),
  (24, (7, 0, 0, 2, 0, 0, [])),
  (25, (8, 0, 0, 7, 0, 0, [])),
  (27, (62, 0, 0, 48, 0, 0, [])),
  (30, (9, 0, 0, 0, 0, 0, [])),
  (31, (55, 0, 0, 52, 235, 121, [])),
  (34, (9, 0, 0, 0, 0, 0, [])),
  (35, (7, 0, 0, 1, 0, 0, [])),
  (36, (62, 0, 0, 56, 0, 0, [])),
  (39, (41, 0, 0, 66, 0, 0, [])),
  (42, (8, 0, 0, 7, 0, 0, [])),
  (44, (1, (-10), 0, 0, 0, 0, [])),
  (46, (20, 0, 0, 0, 0, 0, [])),
  (47, (14, 0, 0, 6, 0, 0, [])),
  (49, (8, 0, 0, 4, 0, 0, [])),
  (51, (42, 0, 0, 59, 0, 0, [])),
  (54, (8, 0, 0, 6, 0, 0, [])),
  (56, (40, 0, 0, 61, 0, 0, [])),
  (59, (8, 0, 0, 5, 0, 0, [])),
  (61, (14, 0, 0, 5, 0, 0, [])),
  (63, (39, 1, 0, 4, 0, 0, [])),
  (66, (39, 1, 0, 7, 0, 0, [])),
  (69, (40, 0, 0, 15, 0, 0, [])),
  (72, (7, 0, 0, 3, 0, 0, [])),
  (73, (69, 0, 0, 106, 0, 0, [(0, 100), (1, 103)])),
  (100, (8, 0, 0, 4, 0, 0, [])),
  (102, (64, 0, 0, 0, 0, 0, [])),
  (103, (8, 0, 0, 5, 0, 0, [])),
  (105, (64, 0, 0, 0, 0, 0, [])),
  (106, (8, 0, 0, 6, 0, 0, [])),
  (108, (64, 0, 0, 0, 0, 0, []))]
def e_X7_worthsThatFit : Ev := (t_X7_worthsThatFit, [(48, (4, 0, 0, 8, s_X8_putWorth)), (56, (3, 1, 0, 7, s_X7_allow))], 1, 0, false, 0, fun _ => 0)
def s_X7_worthsThatFit : Sp := spc e_X7_worthsThatFit 8
theorem m_X7_worthsThatFit : monoE e_X7_worthsThatFit := monoE_of (cons_all (p_X8_putWorth) (cons_all (p_X7_allow) nil_all))
theorem p_X7_worthsThatFit : mono s_X7_worthsThatFit := spc_mono m_X7_worthsThatFit _
theorem k_X7_worthsThatFit (l : Launch) : Con l y_X7_worthsThatFit prog_9_method_5_code 8 (Option.some Jvm.ClassFile.FieldType.int) { frames := 4, cells := 0, slots := 0, locals := 92 } 1 0 s_X7_worthsThatFit := con_of l e_X7_worthsThatFit y_X7_worthsThatFit prog_9_method_5_code 8 (Option.some Jvm.ClassFile.FieldType.int) _ (by decide +kernel) (cons_all (clV (k_X8_putWorth l) f_X8_putWorth ⟨rfl, rfl, Nat.le_of_ble_eq_true rfl, Nat.le_of_ble_eq_true rfl⟩ (mg 594 (by decide +kernel))) (cons_all (clV (k_X7_allow l) f_X7_allow ⟨rfl, rfl, Nat.le_of_ble_eq_true rfl, Nat.le_of_ble_eq_true rfl⟩ (mg 595 (by decide +kernel))) nil_all)) (Or.inl (by decide +kernel))
theorem f_X7_worthsThatFit : calS y_X7_worthsThatFit prog_9_method_5_code 8 (Option.some Jvm.ClassFile.FieldType.int) 4 := ⟨⟨mem_g (i := 593) (by decide +kernel) rfl, mg 28 (by decide +kernel)⟩, by decide +kernel, by decide +kernel, mg 592 (by decide +kernel)⟩
def y_X8_copyFrom : MethodName := ⟨"ActsPaid$Stage", "copyFrom", "(LActsPaid$Stage;)V"⟩
def t_X8_copyFrom : List (Nat × Ao) := [
  (0, (9, 0, 0, 0, 0, 0, [])),
  (1, (9, 0, 0, 1, 0, 0, [])),
  (2, (55, 0, 0, 9, 224, 88, [])),
  (5, (56, 0, 0, 9, 224, 88, [])),
  (8, (9, 0, 0, 0, 0, 0, [])),
  (9, (9, 0, 0, 1, 0, 0, [])),
  (10, (55, 0, 0, 15, 225, 92, [])),
  (13, (56, 0, 0, 15, 225, 92, [])),
  (16, (9, 0, 0, 0, 0, 0, [])),
  (17, (9, 0, 0, 1, 0, 0, [])),
  (18, (55, 0, 0, 18, 226, 97, [])),
  (21, (56, 0, 0, 18, 226, 97, [])),
  (24, (9, 0, 0, 0, 0, 0, [])),
  (25, (9, 0, 0, 1, 0, 0, [])),
  (26, (55, 0, 0, 47, 227, 101, [])),
  (29, (56, 0, 0, 47, 227, 101, [])),
  (32, (9, 0, 0, 0, 0, 0, [])),
  (33, (9, 0, 0, 1, 0, 0, [])),
  (34, (55, 0, 0, 21, 228, 103, [])),
  (37, (56, 0, 0, 21, 228, 103, [])),
  (40, (9, 0, 0, 0, 0, 0, [])),
  (41, (9, 0, 0, 1, 0, 0, [])),
  (42, (55, 0, 0, 50, 229, 107, [])),
  (45, (56, 0, 0, 50, 229, 107, [])),
  (48, (9, 0, 0, 1, 0, 0, [])),
  (49, (55, 0, 0, 24, 230, 110, [])),
  (52, (9, 0, 0, 0, 0, 0, [])),
  (53, (55, 0, 0, 24, 230, 110, [])),
  (56, (63, 0, 0, 53, 0, 0, [])),
  (59, (9, 0, 0, 1, 0, 0, [])),
  (60, (55, 0, 0, 28, 231, 113, [])),
  (63, (9, 0, 0, 0, 0, 0, [])),
  (64, (55, 0, 0, 28, 231, 113, [])),
  (67, (63, 0, 0, 53, 0, 0, [])),
  (70, (9, 0, 0, 1, 0, 0, [])),
  (71, (55, 0, 0, 31, 232, 114, [])),
  (74, (9, 0, 0, 0, 0, 0, [])),
  (75, (55, 0, 0, 31, 232, 114, [])),
  (78, (63, 0, 0, 53, 0, 0, [])),
  (81, (9, 0, 0, 1, 0, 0, [])),
  (82, (55, 0, 0, 34, 233, 117, [])),
  (85, (9, 0, 0, 0, 0, 0, [])),
  (86, (55, 0, 0, 34, 233, 117, [])),
  (89, (63, 0, 0, 53, 0, 0, [])),
  (92, (9, 0, 0, 1, 0, 0, [])),
  (93, (55, 0, 0, 37, 234, 118, [])),
  (96, (9, 0, 0, 0, 0, 0, [])),
  (97, (55, 0, 0, 37, 234, 118, [])),
  (100, (63, 0, 0, 53, 0, 0, [])),
  (103, (9, 0, 0, 0, 0, 0, [])),
  (104, (55, 0, 0, 43, 235, 120, [])),
  (107, (9, 0, 0, 1, 0, 0, [])),
  (108, (55, 0, 0, 43, 235, 120, [])),
  (111, (62, 0, 0, 59, 0, 0, [])),
  (114, (66, 0, 0, 0, 0, 0, []))]
def e_X8_copyFrom : Ev := (t_X8_copyFrom, [(53, (2, 0, 0, 0, s_X5_copy)), (59, (2, 0, 0, 7, s_X7_copyFrom))], 0, 0, false, 0, fun _ => 0)
def s_X8_copyFrom : Sp := spc e_X8_copyFrom 2
theorem m_X8_copyFrom : monoE e_X8_copyFrom := monoE_of (cons_all (p_X5_copy) (cons_all (p_X7_copyFrom) nil_all))
theorem p_X8_copyFrom : mono s_X8_copyFrom := spc_mono m_X8_copyFrom _
theorem k_X8_copyFrom (l : Launch) : Con l y_X8_copyFrom prog_10_method_2_code 2 (Option.none : Option Jvm.ClassFile.FieldType) { frames := 2, cells := 0, slots := 0, locals := 43 } 0 0 s_X8_copyFrom := con_of l e_X8_copyFrom y_X8_copyFrom prog_10_method_2_code 2 (Option.none : Option Jvm.ClassFile.FieldType) _ (by decide +kernel) (cons_all (clS (k_X5_copy l) f_X5_copy ⟨rfl, rfl, Nat.le_of_ble_eq_true rfl, Nat.le_of_ble_eq_true rfl⟩ (mg 423 (by decide +kernel))) (cons_all (clV (k_X7_copyFrom l) f_X7_copyFrom ⟨rfl, rfl, Nat.le_of_ble_eq_true rfl, Nat.le_of_ble_eq_true rfl⟩ (mg 426 (by decide +kernel))) nil_all)) (Or.inl (by decide +kernel))
theorem f_X8_copyFrom : calV y_X8_copyFrom prog_10_method_2_code 2 (Option.none : Option Jvm.ClassFile.FieldType) 2 7 := ⟨⟨mem_g (i := 422) (by decide +kernel) rfl, mg 27 (by decide +kernel)⟩, by decide +kernel, by decide +kernel, by decide, mg 420 (by decide +kernel), mg 421 (by decide +kernel), _, rfl, rfl⟩
def y_X8_openWith : MethodName := ⟨"ActsPaid$Stage", "openWith", "(I)V"⟩
def t_X8_openWith : List (Nat × Ao) := [
  (0, (9, 0, 0, 0, 0, 0, [])),
  (1, (7, 0, 0, 1, 0, 0, [])),
  (2, (56, 0, 0, 9, 224, 88, [])),
  (5, (9, 0, 0, 0, 0, 0, [])),
  (6, (0, 0, 0, 0, 0, 0, [])),
  (7, (56, 0, 0, 50, 229, 107, [])),
  (10, (9, 0, 0, 0, 0, 0, [])),
  (11, (55, 0, 0, 43, 235, 120, [])),
  (14, (0, 0, 0, 0, 0, 0, [])),
  (15, (56, 0, 0, 63, 192, 74, [])),
  (18, (9, 0, 0, 0, 0, 0, [])),
  (19, (62, 0, 0, 66, 0, 0, [])),
  (22, (0, 0, 0, 0, 0, 0, [])),
  (23, (13, 0, 0, 2, 0, 0, [])),
  (24, (7, 0, 0, 2, 0, 0, [])),
  (25, (1, 6, 0, 0, 0, 0, [])),
  (27, (50, 0, 0, 54, 0, 0, [])),
  (30, (9, 0, 0, 0, 0, 0, [])),
  (31, (55, 0, 0, 31, 232, 114, [])),
  (34, (7, 0, 0, 2, 0, 0, [])),
  (35, (0, 0, 0, 0, 0, 0, [])),
  (36, (63, 0, 0, 69, 0, 0, [])),
  (39, (9, 0, 0, 0, 0, 0, [])),
  (40, (55, 0, 0, 34, 233, 117, [])),
  (43, (7, 0, 0, 2, 0, 0, [])),
  (44, (0, 0, 0, 0, 0, 0, [])),
  (45, (63, 0, 0, 69, 0, 0, [])),
  (48, (39, 1, 0, 2, 0, 0, [])),
  (51, (40, 0, 0, 24, 0, 0, [])),
  (54, (0, 0, 0, 0, 0, 0, [])),
  (55, (13, 0, 0, 2, 0, 0, [])),
  (56, (7, 0, 0, 2, 0, 0, [])),
  (57, (1, 8, 0, 0, 0, 0, [])),
  (59, (50, 0, 0, 77, 0, 0, [])),
  (62, (9, 0, 0, 0, 0, 0, [])),
  (63, (55, 0, 0, 37, 234, 118, [])),
  (66, (7, 0, 0, 2, 0, 0, [])),
  (67, (0, 0, 0, 0, 0, 0, [])),
  (68, (63, 0, 0, 69, 0, 0, [])),
  (71, (39, 1, 0, 2, 0, 0, [])),
  (74, (40, 0, 0, 56, 0, 0, [])),
  (77, (66, 0, 0, 0, 0, 0, []))]
def e_X8_openWith : Ev := (t_X8_openWith, [(66, (1, 0, 0, 8, s_X8_orderByNumbers)), (69, (3, 0, 0, 0, s_X5_put))], 0, 0, false, 0, fun _ => 0)
def s_X8_openWith : Sp := spc e_X8_openWith 3
theorem m_X8_openWith : monoE e_X8_openWith := monoE_of (cons_all (p_X8_orderByNumbers) (cons_all (p_X5_put) nil_all))
theorem p_X8_openWith : mono s_X8_openWith := spc_mono m_X8_openWith _
theorem k_X8_openWith (l : Launch) : Con l y_X8_openWith prog_10_method_3_code 3 (Option.none : Option Jvm.ClassFile.FieldType) { frames := 2, cells := 0, slots := 0, locals := 43 } 0 0 s_X8_openWith := con_of l e_X8_openWith y_X8_openWith prog_10_method_3_code 3 (Option.none : Option Jvm.ClassFile.FieldType) _ (by decide +kernel) (cons_all (clV (k_X8_orderByNumbers l) f_X8_orderByNumbers ⟨rfl, rfl, Nat.le_of_ble_eq_true rfl, Nat.le_of_ble_eq_true rfl⟩ (mg 265 (by decide +kernel))) (cons_all (clS (k_X5_put l) f_X5_put ⟨rfl, rfl, Nat.le_of_ble_eq_true rfl, Nat.le_of_ble_eq_true rfl⟩ (mg 269 (by decide +kernel))) nil_all)) (Or.inl (by decide +kernel))
theorem f_X8_openWith : calV y_X8_openWith prog_10_method_3_code 3 (Option.none : Option Jvm.ClassFile.FieldType) 2 7 := ⟨⟨mem_g (i := 264) (by decide +kernel) rfl, mg 27 (by decide +kernel)⟩, by decide +kernel, by decide +kernel, by decide, mg 262 (by decide +kernel), mg 263 (by decide +kernel), _, rfl, rfl⟩
def y_X8_setting : MethodName := ⟨"ActsPaid$Stage", "setting", "(I)I"⟩
def t_X8_setting : List (Nat × Ao) := [
  (0, (7, 0, 0, 1, 0, 0, [])),
  (1, (68, 0, 0, 43, 0, 0, [(0, 28), (1, 33), (2, 38)])),
  (28, (9, 0, 0, 0, 0, 0, [])),
  (29, (55, 0, 0, 15, 225, 92, [])),
  (32, (64, 0, 0, 0, 0, 0, [])),
  (33, (9, 0, 0, 0, 0, 0, [])),
  (34, (55, 0, 0, 18, 226, 97, [])),
  (37, (64, 0, 0, 0, 0, 0, [])),
  (38, (9, 0, 0, 0, 0, 0, [])),
  (39, (55, 0, 0, 47, 227, 101, [])),
  (42, (64, 0, 0, 0, 0, 0, [])),
  (43, (9, 0, 0, 0, 0, 0, [])),
  (44, (55, 0, 0, 21, 228, 103, [])),
  (47, (64, 0, 0, 0, 0, 0, []))]
def e_X8_setting : Ev := (t_X8_setting, [], 1, 0, false, 0, fun _ => 0)
def s_X8_setting : Sp := spc e_X8_setting 2
theorem m_X8_setting : monoE e_X8_setting := monoE_of nil_all
theorem p_X8_setting : mono s_X8_setting := spc_mono m_X8_setting _
theorem k_X8_setting (l : Launch) : Con l y_X8_setting prog_10_method_5_code 2 (Option.some Jvm.ClassFile.FieldType.int) { frames := 0, cells := 0, slots := 0, locals := 0 } 1 0 s_X8_setting := con_of l e_X8_setting y_X8_setting prog_10_method_5_code 2 (Option.some Jvm.ClassFile.FieldType.int) _ (by decide +kernel) nil_all (Or.inl (by decide +kernel))
theorem f_X8_setting : calV y_X8_setting prog_10_method_5_code 2 (Option.some Jvm.ClassFile.FieldType.int) 2 7 := ⟨⟨mem_g (i := 282) (by decide +kernel) rfl, mg 27 (by decide +kernel)⟩, by decide +kernel, by decide +kernel, by decide, mg 280 (by decide +kernel), mg 281 (by decide +kernel), _, rfl, rfl⟩
def y_X8_putSetting : MethodName := ⟨"ActsPaid$Stage", "putSetting", "(II)V"⟩
def t_X8_putSetting : List (Nat × Ao) := [
  (0, (7, 0, 0, 1, 0, 0, [])),
  (1, (68, 0, 0, 52, 0, 0, [(0, 28), (1, 36), (2, 44)])),
  (28, (9, 0, 0, 0, 0, 0, [])),
  (29, (7, 0, 0, 2, 0, 0, [])),
  (30, (56, 0, 0, 15, 225, 92, [])),
  (33, (40, 0, 0, 57, 0, 0, [])),
  (36, (9, 0, 0, 0, 0, 0, [])),
  (37, (7, 0, 0, 2, 0, 0, [])),
  (38, (56, 0, 0, 18, 226, 97, [])),
  (41, (40, 0, 0, 57, 0, 0, [])),
  (44, (9, 0, 0, 0, 0, 0, [])),
  (45, (7, 0, 0, 2, 0, 0, [])),
  (46, (56, 0, 0, 47, 227, 101, [])),
  (49, (40, 0, 0, 57, 0, 0, [])),
  (52, (9, 0, 0, 0, 0, 0, [])),
  (53, (7, 0, 0, 2, 0, 0, [])),
  (54, (56, 0, 0, 21, 228, 103, [])),
  (57, (66, 0, 0, 0, 0, 0, []))]
def e_X8_putSetting : Ev := (t_X8_putSetting, [], 0, 0, false, 0, fun _ => 0)
def s_X8_putSetting : Sp := spc e_X8_putSetting 3
theorem m_X8_putSetting : monoE e_X8_putSetting := monoE_of nil_all
theorem p_X8_putSetting : mono s_X8_putSetting := spc_mono m_X8_putSetting _
theorem k_X8_putSetting (l : Launch) : Con l y_X8_putSetting prog_10_method_6_code 3 (Option.none : Option Jvm.ClassFile.FieldType) { frames := 0, cells := 0, slots := 0, locals := 0 } 0 0 s_X8_putSetting := con_of l e_X8_putSetting y_X8_putSetting prog_10_method_6_code 3 (Option.none : Option Jvm.ClassFile.FieldType) _ (by decide +kernel) nil_all (Or.inl (by decide +kernel))
theorem f_X8_putSetting : calV y_X8_putSetting prog_10_method_6_code 3 (Option.none : Option Jvm.ClassFile.FieldType) 3 7 := ⟨⟨mem_g (i := 286) (by decide +kernel) rfl, mg 27 (by decide +kernel)⟩, by decide +kernel, by decide +kernel, by decide, mg 284 (by decide +kernel), mg 285 (by decide +kernel), _, rfl, rfl⟩
def y_X8_hasAct : MethodName := ⟨"ActsPaid$Stage", "hasAct", "(I)Z"⟩
def t_X8_hasAct : List (Nat × Ao) := [
  (0, (7, 0, 0, 1, 0, 0, [])),
  (1, (0, 0, 0, 0, 0, 0, [])),
  (2, (9, 0, 0, 0, 0, 0, [])),
  (3, (55, 0, 0, 9, 224, 88, [])),
  (6, (0, 1, 0, 0, 0, 0, [])),
  (7, (20, 0, 0, 0, 0, 0, [])),
  (8, (63, 0, 0, 73, 0, 0, [])),
  (11, (64, 0, 0, 0, 0, 0, []))]
def e_X8_hasAct : Ev := (t_X8_hasAct, [(73, (3, 1, 0, 0, s_X9_within))], 4, 0, false, 0, fun _ => 0)
def s_X8_hasAct : Sp := spc e_X8_hasAct 2
theorem m_X8_hasAct : monoE e_X8_hasAct := monoE_of (cons_all (p_X9_within) nil_all)
theorem p_X8_hasAct : mono s_X8_hasAct := spc_mono m_X8_hasAct _
theorem k_X8_hasAct (l : Launch) : Con l y_X8_hasAct prog_10_method_8_code 2 (Option.some Jvm.ClassFile.FieldType.boolean) { frames := 1, cells := 0, slots := 0, locals := 22 } 1 0 s_X8_hasAct := con_of l e_X8_hasAct y_X8_hasAct prog_10_method_8_code 2 (Option.some Jvm.ClassFile.FieldType.boolean) _ (by decide +kernel) (cons_all (clN (k_X9_within l) f_X9_within ⟨rfl, rfl, Nat.le_of_ble_eq_true rfl, Nat.le_of_ble_eq_true rfl⟩ (by unfold nstL; decide +kernel)) nil_all) (Or.inl (by decide +kernel))
theorem f_X8_hasAct : calV y_X8_hasAct prog_10_method_8_code 2 (Option.some Jvm.ClassFile.FieldType.boolean) 2 7 := ⟨⟨mem_g (i := 360) (by decide +kernel) rfl, mg 27 (by decide +kernel)⟩, by decide +kernel, by decide +kernel, by decide, mg 358 (by decide +kernel), mg 359 (by decide +kernel), _, rfl, rfl⟩
def y_X8_worthOfFirst : MethodName := ⟨"ActsPaid$Stage", "worthOfFirst", "(II)I"⟩
def t_X8_worthOfFirst : List (Nat × Ao) := [
  (0, (0, 0, 0, 0, 0, 0, [])),
  (1, (13, 0, 0, 3, 0, 0, [])),
  (2, (0, 0, 0, 0, 0, 0, [])),
  (3, (14, 0, 0, 4, 0, 0, [])),
  (5, (8, 0, 0, 4, 0, 0, [])),
  (7, (7, 0, 0, 2, 0, 0, [])),
  (8, (50, 0, 0, 27, 0, 0, [])),
  (11, (7, 0, 0, 3, 0, 0, [])),
  (12, (9, 0, 0, 0, 0, 0, [])),
  (13, (7, 0, 0, 1, 0, 0, [])),
  (14, (8, 0, 0, 4, 0, 0, [])),
  (16, (62, 0, 0, 81, 0, 0, [])),
  (19, (19, 0, 0, 0, 0, 0, [])),
  (20, (13, 0, 0, 3, 0, 0, [])),
  (21, (39, 1, 0, 4, 0, 0, [])),
  (24, (40, 0, 0, 5, 0, 0, [])),
  (27, (7, 0, 0, 3, 0, 0, [])),
  (28, (64, 0, 0, 0, 0, 0, []))]
def e_X8_worthOfFirst : Ev := (t_X8_worthOfFirst, [(81, (3, 1, 0, 8, s_X8_worthPlayed))], 1, 0, false, 0, fun _ => 0)
def s_X8_worthOfFirst : Sp := spc e_X8_worthOfFirst 5
theorem m_X8_worthOfFirst : monoE e_X8_worthOfFirst := monoE_of (cons_all (p_X8_worthPlayed) nil_all)
theorem p_X8_worthOfFirst : mono s_X8_worthOfFirst := spc_mono m_X8_worthOfFirst _
theorem k_X8_worthOfFirst (l : Launch) : Con l y_X8_worthOfFirst prog_10_method_12_code 5 (Option.some Jvm.ClassFile.FieldType.int) { frames := 2, cells := 0, slots := 0, locals := 43 } 1 0 s_X8_worthOfFirst := con_of l e_X8_worthOfFirst y_X8_worthOfFirst prog_10_method_12_code 5 (Option.some Jvm.ClassFile.FieldType.int) _ (by decide +kernel) (cons_all (clV (k_X8_worthPlayed l) f_X8_worthPlayed ⟨rfl, rfl, Nat.le_of_ble_eq_true rfl, Nat.le_of_ble_eq_true rfl⟩ (mg 380 (by decide +kernel))) nil_all) (Or.inl (by decide +kernel))
theorem f_X8_worthOfFirst : calV y_X8_worthOfFirst prog_10_method_12_code 5 (Option.some Jvm.ClassFile.FieldType.int) 3 7 := ⟨⟨mem_g (i := 391) (by decide +kernel) rfl, mg 27 (by decide +kernel)⟩, by decide +kernel, by decide +kernel, by decide, mg 389 (by decide +kernel), mg 390 (by decide +kernel), _, rfl, rfl⟩
def y_X8_isAfter : MethodName := ⟨"ActsPaid$Stage", "isAfter", "(II)Z"⟩
def t_X8_isAfter : List (Nat × Ao) := [
  (0, (9, 0, 0, 0, 0, 0, [])),
  (1, (55, 0, 0, 34, 233, 117, [])),
  (4, (7, 0, 0, 2, 0, 0, [])),
  (5, (63, 0, 0, 77, 0, 0, [])),
  (8, (7, 0, 0, 1, 0, 0, [])),
  (9, (29, 0, 0, 0, 0, 0, [])),
  (10, (0, 1, 0, 0, 0, 0, [])),
  (11, (25, 0, 0, 0, 0, 0, [])),
  (12, (41, 0, 0, 19, 0, 0, [])),
  (15, (0, 1, 0, 0, 0, 0, [])),
  (16, (40, 0, 0, 20, 0, 0, [])),
  (19, (0, 0, 0, 0, 0, 0, [])),
  (20, (64, 0, 0, 0, 0, 0, []))]
def e_X8_isAfter : Ev := (t_X8_isAfter, [(77, (2, 1, 0, 0, s_X5_at))], 4, 0, false, 0, fun _ => 0)
def s_X8_isAfter : Sp := spc e_X8_isAfter 3
theorem m_X8_isAfter : monoE e_X8_isAfter := monoE_of (cons_all (p_X5_at) nil_all)
theorem p_X8_isAfter : mono s_X8_isAfter := spc_mono m_X8_isAfter _
theorem k_X8_isAfter (l : Launch) : Con l y_X8_isAfter prog_10_method_17_code 3 (Option.some Jvm.ClassFile.FieldType.boolean) { frames := 1, cells := 0, slots := 0, locals := 21 } 1 0 s_X8_isAfter := con_of l e_X8_isAfter y_X8_isAfter prog_10_method_17_code 3 (Option.some Jvm.ClassFile.FieldType.boolean) _ (by decide +kernel) (cons_all (clS (k_X5_at l) f_X5_at ⟨rfl, rfl, Nat.le_of_ble_eq_true rfl, Nat.le_of_ble_eq_true rfl⟩ (mg 365 (by decide +kernel))) nil_all) (Or.inl (by decide +kernel))
theorem f_X8_isAfter : calV y_X8_isAfter prog_10_method_17_code 3 (Option.some Jvm.ClassFile.FieldType.boolean) 3 7 := ⟨⟨mem_g (i := 442) (by decide +kernel) rfl, mg 27 (by decide +kernel)⟩, by decide +kernel, by decide +kernel, by decide, mg 440 (by decide +kernel), mg 441 (by decide +kernel), _, rfl, rfl⟩
def y_X8_putAfter : MethodName := ⟨"ActsPaid$Stage", "putAfter", "(II)V"⟩
def t_X8_putAfter : List (Nat × Ao) := [
  (0, (9, 0, 0, 0, 0, 0, [])),
  (1, (55, 0, 0, 34, 233, 117, [])),
  (4, (7, 0, 0, 1, 0, 0, [])),
  (5, (63, 0, 0, 77, 0, 0, [])),
  (8, (0, 1, 0, 0, 0, 0, [])),
  (9, (7, 0, 0, 1, 0, 0, [])),
  (10, (28, 0, 0, 0, 0, 0, [])),
  (11, (26, 0, 0, 0, 0, 0, [])),
  (12, (13, 0, 0, 3, 0, 0, [])),
  (13, (0, 0, 0, 0, 0, 0, [])),
  (14, (14, 0, 0, 4, 0, 0, [])),
  (16, (8, 0, 0, 4, 0, 0, [])),
  (18, (9, 0, 0, 0, 0, 0, [])),
  (19, (55, 0, 0, 9, 224, 88, [])),
  (22, (50, 0, 0, 67, 0, 0, [])),
  (25, (8, 0, 0, 4, 0, 0, [])),
  (27, (7, 0, 0, 2, 0, 0, [])),
  (28, (47, 0, 0, 41, 0, 0, [])),
  (31, (9, 0, 0, 0, 0, 0, [])),
  (32, (7, 0, 0, 2, 0, 0, [])),
  (33, (8, 0, 0, 4, 0, 0, [])),
  (35, (62, 0, 0, 99, 0, 0, [])),
  (38, (41, 0, 0, 61, 0, 0, [])),
  (41, (9, 0, 0, 0, 0, 0, [])),
  (42, (55, 0, 0, 34, 233, 117, [])),
  (45, (8, 0, 0, 4, 0, 0, [])),
  (47, (9, 0, 0, 0, 0, 0, [])),
  (48, (55, 0, 0, 34, 233, 117, [])),
  (51, (8, 0, 0, 4, 0, 0, [])),
  (53, (63, 0, 0, 77, 0, 0, [])),
  (56, (7, 0, 0, 3, 0, 0, [])),
  (57, (26, 0, 0, 0, 0, 0, [])),
  (58, (63, 0, 0, 69, 0, 0, [])),
  (61, (39, 1, 0, 4, 0, 0, [])),
  (64, (40, 0, 0, 16, 0, 0, [])),
  (67, (66, 0, 0, 0, 0, 0, []))]
def e_X8_putAfter : Ev := (t_X8_putAfter, [(69, (3, 0, 0, 0, s_X5_put)), (77, (2, 1, 0, 0, s_X5_at)), (99, (3, 1, 0, 8, s_X8_isAfter))], 0, 0, false, 0, fun _ => 0)
def s_X8_putAfter : Sp := spc e_X8_putAfter 5
theorem m_X8_putAfter : monoE e_X8_putAfter := monoE_of (cons_all (p_X5_put) (cons_all (p_X5_at) (cons_all (p_X8_isAfter) nil_all)))
theorem p_X8_putAfter : mono s_X8_putAfter := spc_mono m_X8_putAfter _
theorem k_X8_putAfter (l : Launch) : Con l y_X8_putAfter prog_10_method_18_code 5 (Option.none : Option Jvm.ClassFile.FieldType) { frames := 2, cells := 0, slots := 0, locals := 43 } 0 0 s_X8_putAfter := con_of l e_X8_putAfter y_X8_putAfter prog_10_method_18_code 5 (Option.none : Option Jvm.ClassFile.FieldType) _ (by decide +kernel) (cons_all (clS (k_X5_put l) f_X5_put ⟨rfl, rfl, Nat.le_of_ble_eq_true rfl, Nat.le_of_ble_eq_true rfl⟩ (mg 269 (by decide +kernel))) (cons_all (clS (k_X5_at l) f_X5_at ⟨rfl, rfl, Nat.le_of_ble_eq_true rfl, Nat.le_of_ble_eq_true rfl⟩ (mg 365 (by decide +kernel))) (cons_all (clV (k_X8_isAfter l) f_X8_isAfter ⟨rfl, rfl, Nat.le_of_ble_eq_true rfl, Nat.le_of_ble_eq_true rfl⟩ (mg 447 (by decide +kernel))) nil_all))) (Or.inl (by decide +kernel))
theorem f_X8_putAfter : calV y_X8_putAfter prog_10_method_18_code 5 (Option.none : Option Jvm.ClassFile.FieldType) 3 7 := ⟨⟨mem_g (i := 446) (by decide +kernel) rfl, mg 27 (by decide +kernel)⟩, by decide +kernel, by decide +kernel, by decide, mg 444 (by decide +kernel), mg 445 (by decide +kernel), _, rfl, rfl⟩
def y_X8_befriend : MethodName := ⟨"ActsPaid$Stage", "befriend", "(II)V"⟩
def t_X8_befriend : List (Nat × Ao) := [
  (0, (9, 0, 0, 0, 0, 0, [])),
  (1, (55, 0, 0, 37, 234, 118, [])),
  (4, (7, 0, 0, 1, 0, 0, [])),
  (5, (9, 0, 0, 0, 0, 0, [])),
  (6, (55, 0, 0, 37, 234, 118, [])),
  (9, (7, 0, 0, 1, 0, 0, [])),
  (10, (63, 0, 0, 77, 0, 0, [])),
  (13, (0, 1, 0, 0, 0, 0, [])),
  (14, (7, 0, 0, 2, 0, 0, [])),
  (15, (28, 0, 0, 0, 0, 0, [])),
  (16, (26, 0, 0, 0, 0, 0, [])),
  (17, (63, 0, 0, 69, 0, 0, [])),
  (20, (66, 0, 0, 0, 0, 0, []))]
def e_X8_befriend : Ev := (t_X8_befriend, [(69, (3, 0, 0, 0, s_X5_put)), (77, (2, 1, 0, 0, s_X5_at))], 0, 0, false, 0, fun _ => 0)
def s_X8_befriend : Sp := spc e_X8_befriend 3
theorem m_X8_befriend : monoE e_X8_befriend := monoE_of (cons_all (p_X5_put) (cons_all (p_X5_at) nil_all))
theorem p_X8_befriend : mono s_X8_befriend := spc_mono m_X8_befriend _
theorem k_X8_befriend (l : Launch) : Con l y_X8_befriend prog_10_method_20_code 3 (Option.none : Option Jvm.ClassFile.FieldType) { frames := 1, cells := 0, slots := 0, locals := 22 } 0 0 s_X8_befriend := con_of l e_X8_befriend y_X8_befriend prog_10_method_20_code 3 (Option.none : Option Jvm.ClassFile.FieldType) _ (by decide +kernel) (cons_all (clS (k_X5_put l) f_X5_put ⟨rfl, rfl, Nat.le_of_ble_eq_true rfl, Nat.le_of_ble_eq_true rfl⟩ (mg 269 (by decide +kernel))) (cons_all (clS (k_X5_at l) f_X5_at ⟨rfl, rfl, Nat.le_of_ble_eq_true rfl, Nat.le_of_ble_eq_true rfl⟩ (mg 365 (by decide +kernel))) nil_all)) (Or.inl (by decide +kernel))
theorem f_X8_befriend : calV y_X8_befriend prog_10_method_20_code 3 (Option.none : Option Jvm.ClassFile.FieldType) 3 7 := ⟨⟨mem_g (i := 490) (by decide +kernel) rfl, mg 27 (by decide +kernel)⟩, by decide +kernel, by decide +kernel, by decide, mg 488 (by decide +kernel), mg 489 (by decide +kernel), _, rfl, rfl⟩
def y_X9_acts : MethodName := ⟨"ActsPaid", "acts", "(I)I"⟩
def t_X9_acts : List (Nat × Ao) := [
  (0, (7, 0, 0, 1, 0, 0, [])),
  (1, (0, 1, 0, 0, 0, 0, [])),
  (2, (1, 6, 0, 0, 0, 0, [])),
  (4, (63, 0, 0, 64, 0, 0, [])),
  (7, (42, 0, 0, 13, 0, 0, [])),
  (10, (1, (-2), 0, 0, 0, 0, [])),
  (12, (64, 0, 0, 0, 0, 0, [])),
  (13, (9, 0, 0, 0, 0, 0, [])),
  (14, (55, 0, 0, 19, 257, 227, [])),
  (17, (55, 0, 0, 68, 224, 89, [])),
  (20, (13, 0, 0, 2, 0, 0, [])),
  (21, (9, 0, 0, 0, 0, 0, [])),
  (22, (55, 0, 0, 19, 257, 227, [])),
  (25, (7, 0, 0, 1, 0, 0, [])),
  (26, (62, 0, 0, 72, 0, 0, [])),
  (29, (7, 0, 0, 2, 0, 0, [])),
  (30, (64, 0, 0, 0, 0, 0, []))]
def e_X9_acts : Ev := (t_X9_acts, [(64, (3, 1, 0, 0, s_X9_within)), (72, (2, 0, 0, 8, s_X8_openWith))], 1, 0, false, 0, fun _ => 0)
def s_X9_acts : Sp := spc e_X9_acts 3
theorem m_X9_acts : monoE e_X9_acts := monoE_of (cons_all (p_X9_within) (cons_all (p_X8_openWith) nil_all))
theorem p_X9_acts : mono s_X9_acts := spc_mono m_X9_acts _
theorem k_X9_acts (l : Launch) : Con l y_X9_acts prog_1_method_2_code 3 (Option.some Jvm.ClassFile.FieldType.int) { frames := 3, cells := 0, slots := 0, locals := 65 } 1 0 s_X9_acts := con_of l e_X9_acts y_X9_acts prog_1_method_2_code 3 (Option.some Jvm.ClassFile.FieldType.int) _ (by decide +kernel) (cons_all (clS (k_X9_within l) f_X9_within ⟨rfl, rfl, Nat.le_of_ble_eq_true rfl, Nat.le_of_ble_eq_true rfl⟩ (mg 258 (by decide +kernel))) (cons_all (clV (k_X8_openWith l) f_X8_openWith ⟨rfl, rfl, Nat.le_of_ble_eq_true rfl, Nat.le_of_ble_eq_true rfl⟩ (mg 261 (by decide +kernel))) nil_all)) (Or.inl (by decide +kernel))
theorem f_X9_acts : calV y_X9_acts prog_1_method_2_code 3 (Option.some Jvm.ClassFile.FieldType.int) 2 8 := ⟨⟨mem_g (i := 257) (by decide +kernel) rfl, mg 25 (by decide +kernel)⟩, by decide +kernel, by decide +kernel, by decide, mg 255 (by decide +kernel), mg 256 (by decide +kernel), _, rfl, rfl⟩
def y_X9_settingLimit : MethodName := ⟨"ActsPaid", "settingLimit", "(I)I"⟩
def t_X9_settingLimit : List (Nat × Ao) := [
  (0, (7, 0, 0, 0, 0, 0, [])),
  (1, (69, 0, 0, 33, 0, 0, [(1, 28), (2, 31)])),
  (28, (1, 9, 0, 0, 0, 0, [])),
  (30, (64, 0, 0, 0, 0, 0, [])),
  (31, (0, 1, 0, 0, 0, 0, [])),
  (32, (64, 0, 0, 0, 0, 0, [])),
  (33, (1, 30, 0, 0, 0, 0, [])),
  (35, (64, 0, 0, 0, 0, 0, []))]
def e_X9_settingLimit : Ev := (t_X9_settingLimit, [], 1, 0, false, 0, fun _ => 0)
def s_X9_settingLimit : Sp := spc e_X9_settingLimit 1
theorem m_X9_settingLimit : monoE e_X9_settingLimit := monoE_of nil_all
theorem p_X9_settingLimit : mono s_X9_settingLimit := spc_mono m_X9_settingLimit _
theorem k_X9_settingLimit (l : Launch) : Con l y_X9_settingLimit prog_1_method_34_code 1 (Option.some Jvm.ClassFile.FieldType.int) { frames := 0, cells := 0, slots := 0, locals := 0 } 1 0 s_X9_settingLimit := con_of l e_X9_settingLimit y_X9_settingLimit prog_1_method_34_code 1 (Option.some Jvm.ClassFile.FieldType.int) _ (by decide +kernel) nil_all (Or.inl (by decide +kernel))
theorem f_X9_settingLimit : calS y_X9_settingLimit prog_1_method_34_code 1 (Option.some Jvm.ClassFile.FieldType.int) 1 := ⟨⟨mem_g (i := 278) (by decide +kernel) rfl, mg 25 (by decide +kernel)⟩, by decide +kernel, by decide +kernel, mg 277 (by decide +kernel)⟩
def y_X9_set : MethodName := ⟨"ActsPaid", "set", "(II)I"⟩
def t_X9_set : List (Nat × Ao) := [
  (0, (7, 0, 0, 1, 0, 0, [])),
  (1, (0, 0, 0, 0, 0, 0, [])),
  (2, (0, 3, 0, 0, 0, 0, [])),
  (3, (63, 0, 0, 64, 0, 0, [])),
  (6, (41, 0, 0, 21, 0, 0, [])),
  (9, (7, 0, 0, 2, 0, 0, [])),
  (10, (0, 0, 0, 0, 0, 0, [])),
  (11, (7, 0, 0, 1, 0, 0, [])),
  (12, (63, 0, 0, 76, 0, 0, [])),
  (15, (63, 0, 0, 64, 0, 0, [])),
  (18, (42, 0, 0, 24, 0, 0, [])),
  (21, (1, (-2), 0, 0, 0, 0, [])),
  (23, (64, 0, 0, 0, 0, 0, [])),
  (24, (9, 0, 0, 0, 0, 0, [])),
  (25, (55, 0, 0, 19, 257, 227, [])),
  (28, (7, 0, 0, 1, 0, 0, [])),
  (29, (62, 0, 0, 80, 0, 0, [])),
  (32, (13, 0, 0, 3, 0, 0, [])),
  (33, (9, 0, 0, 0, 0, 0, [])),
  (34, (55, 0, 0, 19, 257, 227, [])),
  (37, (7, 0, 0, 1, 0, 0, [])),
  (38, (7, 0, 0, 2, 0, 0, [])),
  (39, (62, 0, 0, 83, 0, 0, [])),
  (42, (7, 0, 0, 3, 0, 0, [])),
  (43, (64, 0, 0, 0, 0, 0, []))]
def e_X9_set : Ev := (t_X9_set, [(64, (3, 1, 0, 0, s_X9_within)), (76, (1, 1, 0, 0, s_X9_settingLimit)), (80, (2, 1, 0, 8, s_X8_setting)), (83, (3, 0, 0, 8, s_X8_putSetting))], 1, 0, false, 0, fun _ => 0)
def s_X9_set : Sp := spc e_X9_set 4
theorem m_X9_set : monoE e_X9_set := monoE_of (cons_all (p_X9_within) (cons_all (p_X9_settingLimit) (cons_all (p_X8_setting) (cons_all (p_X8_putSetting) nil_all))))
theorem p_X9_set : mono s_X9_set := spc_mono m_X9_set _
theorem k_X9_set (l : Launch) : Con l y_X9_set prog_1_method_3_code 4 (Option.some Jvm.ClassFile.FieldType.int) { frames := 1, cells := 0, slots := 0, locals := 22 } 1 0 s_X9_set := con_of l e_X9_set y_X9_set prog_1_method_3_code 4 (Option.some Jvm.ClassFile.FieldType.int) _ (by decide +kernel) (cons_all (clS (k_X9_within l) f_X9_within ⟨rfl, rfl, Nat.le_of_ble_eq_true rfl, Nat.le_of_ble_eq_true rfl⟩ (mg 258 (by decide +kernel))) (cons_all (clS (k_X9_settingLimit l) f_X9_settingLimit ⟨rfl, rfl, Nat.le_of_ble_eq_true rfl, Nat.le_of_ble_eq_true rfl⟩ (mg 276 (by decide +kernel))) (cons_all (clV (k_X8_setting l) f_X8_setting ⟨rfl, rfl, Nat.le_of_ble_eq_true rfl, Nat.le_of_ble_eq_true rfl⟩ (mg 279 (by decide +kernel))) (cons_all (clV (k_X8_putSetting l) f_X8_putSetting ⟨rfl, rfl, Nat.le_of_ble_eq_true rfl, Nat.le_of_ble_eq_true rfl⟩ (mg 283 (by decide +kernel))) nil_all)))) (Or.inl (by decide +kernel))
theorem f_X9_set : calV y_X9_set prog_1_method_3_code 4 (Option.some Jvm.ClassFile.FieldType.int) 3 8 := ⟨⟨mem_g (i := 275) (by decide +kernel) rfl, mg 25 (by decide +kernel)⟩, by decide +kernel, by decide +kernel, by decide, mg 273 (by decide +kernel), mg 274 (by decide +kernel), _, rfl, rfl⟩
def y_X9_say : MethodName := ⟨"ActsPaid", "say", "(I)I"⟩
def t_X9_say : List (Nat × Ao) := [
  (0, (7, 0, 0, 1, 0, 0, [])),
  (1, (1, 33, 0, 0, 0, 0, [])),
  (3, (1, 126, 0, 0, 0, 0, [])),
  (5, (63, 0, 0, 64, 0, 0, [])),
  (8, (42, 0, 0, 14, 0, 0, [])),
  (11, (1, (-2), 0, 0, 0, 0, [])),
  (13, (64, 0, 0, 0, 0, 0, [])),
  (14, (9, 0, 0, 0, 0, 0, [])),
  (15, (55, 0, 0, 10, 256, 226, [])),
  (18, (7, 0, 0, 1, 0, 0, [])),
  (19, (62, 0, 0, 87, 0, 0, [])),
  (22, (41, 0, 0, 35, 0, 0, [])),
  (25, (9, 0, 0, 0, 0, 0, [])),
  (26, (55, 0, 0, 10, 256, 226, [])),
  (29, (55, 0, 0, 91, 97, 54, [])),
  (32, (40, 0, 0, 37, 0, 0, [])),
  (35, (1, (-4), 0, 0, 0, 0, [])),
  (37, (64, 0, 0, 0, 0, 0, []))]
def e_X9_say : Ev := (t_X9_say, [(64, (3, 1, 0, 0, s_X9_within)), (87, (2, 1, 0, 4, s_X3_add))], 1, 0, false, 0, fun _ => 0)
def s_X9_say : Sp := spc e_X9_say 2
theorem m_X9_say : monoE e_X9_say := monoE_of (cons_all (p_X9_within) (cons_all (p_X3_add) nil_all))
theorem p_X9_say : mono s_X9_say := spc_mono m_X9_say _
theorem k_X9_say (l : Launch) : Con l y_X9_say prog_1_method_4_code 2 (Option.some Jvm.ClassFile.FieldType.int) { frames := 2, cells := 0, slots := 0, locals := 43 } 1 0 s_X9_say := con_of l e_X9_say y_X9_say prog_1_method_4_code 2 (Option.some Jvm.ClassFile.FieldType.int) _ (by decide +kernel) (cons_all (clS (k_X9_within l) f_X9_within ⟨rfl, rfl, Nat.le_of_ble_eq_true rfl, Nat.le_of_ble_eq_true rfl⟩ (mg 258 (by decide +kernel))) (cons_all (clV (k_X3_add l) f_X3_add ⟨rfl, rfl, Nat.le_of_ble_eq_true rfl, Nat.le_of_ble_eq_true rfl⟩ (mg 291 (by decide +kernel))) nil_all)) (Or.inl (by decide +kernel))
theorem f_X9_say : calV y_X9_say prog_1_method_4_code 2 (Option.some Jvm.ClassFile.FieldType.int) 2 8 := ⟨⟨mem_g (i := 290) (by decide +kernel) rfl, mg 25 (by decide +kernel)⟩, by decide +kernel, by decide +kernel, by decide, mg 288 (by decide +kernel), mg 289 (by decide +kernel), _, rfl, rfl⟩
def y_X9_wipe : MethodName := ⟨"ActsPaid", "wipe", "()I"⟩
def t_X9_wipe : List (Nat × Ao) := [
  (0, (9, 0, 0, 0, 0, 0, [])),
  (1, (55, 0, 0, 10, 256, 226, [])),
  (4, (55, 0, 0, 91, 97, 54, [])),
  (7, (13, 0, 0, 1, 0, 0, [])),
  (8, (9, 0, 0, 0, 0, 0, [])),
  (9, (55, 0, 0, 10, 256, 226, [])),
  (12, (0, 0, 0, 0, 0, 0, [])),
  (13, (56, 0, 0, 91, 97, 54, [])),
  (16, (7, 0, 0, 1, 0, 0, [])),
  (17, (64, 0, 0, 0, 0, 0, []))]
def e_X9_wipe : Ev := (t_X9_wipe, [], 1, 0, false, 0, fun _ => 0)
def s_X9_wipe : Sp := spc e_X9_wipe 2
theorem m_X9_wipe : monoE e_X9_wipe := monoE_of nil_all
theorem p_X9_wipe : mono s_X9_wipe := spc_mono m_X9_wipe _
theorem k_X9_wipe (l : Launch) : Con l y_X9_wipe prog_1_method_5_code 2 (Option.some Jvm.ClassFile.FieldType.int) { frames := 0, cells := 0, slots := 0, locals := 0 } 1 0 s_X9_wipe := con_of l e_X9_wipe y_X9_wipe prog_1_method_5_code 2 (Option.some Jvm.ClassFile.FieldType.int) _ (by decide +kernel) nil_all (Or.inl (by decide +kernel))
theorem f_X9_wipe : calV y_X9_wipe prog_1_method_5_code 2 (Option.some Jvm.ClassFile.FieldType.int) 1 8 := ⟨⟨mem_g (i := 299) (by decide +kernel) rfl, mg 25 (by decide +kernel)⟩, by decide +kernel, by decide +kernel, by decide, mg 297 (by decide +kernel), mg 298 (by decide +kernel), _, rfl, rfl⟩
def y_X9_fault : MethodName := ⟨"ActsPaid", "fault", "(I)I"⟩
def t_X9_fault : List (Nat × Ao) := [
  (0, (7, 0, 0, 1, 0, 0, [])),
  (1, (0, 0, 0, 0, 0, 0, [])),
  (2, (0, 1, 0, 0, 0, 0, [])),
  (3, (63, 0, 0, 64, 0, 0, [])),
  (6, (42, 0, 0, 12, 0, 0, [])),
  (9, (1, (-2), 0, 0, 0, 0, [])),
  (11, (64, 0, 0, 0, 0, 0, [])),
  (12, (7, 0, 0, 1, 0, 0, [])),
  (13, (42, 0, 0, 33, 0, 0, [])),
  (16, (9, 0, 0, 0, 0, 0, [])),
  (17, (55, 0, 0, 10, 256, 226, [])),
  (20, (9, 0, 0, 0, 0, 0, [])),
  (21, (55, 0, 0, 19, 257, 227, [])),
  (24, (55, 0, 0, 68, 224, 89, [])),
  (27, (62, 0, 0, 94, 0, 0, [])),
  (30, (40, 0, 0, 47, 0, 0, [])),
  (33, (9, 0, 0, 0, 0, 0, [])),
  (34, (55, 0, 0, 10, 256, 226, [])),
  (37, (9, 0, 0, 0, 0, 0, [])),
  (38, (55, 0, 0, 19, 257, 227, [])),
  (41, (55, 0, 0, 68, 224, 89, [])),
  (44, (62, 0, 0, 97, 0, 0, [])),
  (47, (64, 0, 0, 0, 0, 0, []))]
def e_X9_fault : Ev := (t_X9_fault, [(64, (3, 1, 0, 0, s_X9_within)), (94, (2, 1, 0, 4, s_X3_guestFault)), (97, (2, 1, 0, 4, s_X3_orderFault))], 1, 0, false, 0, fun _ => 0)
def s_X9_fault : Sp := spc e_X9_fault 2
theorem m_X9_fault : monoE e_X9_fault := monoE_of (cons_all (p_X9_within) (cons_all (p_X3_guestFault) (cons_all (p_X3_orderFault) nil_all)))
theorem p_X9_fault : mono s_X9_fault := spc_mono m_X9_fault _
theorem k_X9_fault (l : Launch) : Con l y_X9_fault prog_1_method_6_code 2 (Option.some Jvm.ClassFile.FieldType.int) { frames := 3, cells := 0, slots := 0, locals := 66 } 1 0 s_X9_fault := con_of l e_X9_fault y_X9_fault prog_1_method_6_code 2 (Option.some Jvm.ClassFile.FieldType.int) _ (by decide +kernel) (cons_all (clS (k_X9_within l) f_X9_within ⟨rfl, rfl, Nat.le_of_ble_eq_true rfl, Nat.le_of_ble_eq_true rfl⟩ (mg 258 (by decide +kernel))) (cons_all (clV (k_X3_guestFault l) f_X3_guestFault ⟨rfl, rfl, Nat.le_of_ble_eq_true rfl, Nat.le_of_ble_eq_true rfl⟩ (mg 304 (by decide +kernel))) (cons_all (clV (k_X3_orderFault l) f_X3_orderFault ⟨rfl, rfl, Nat.le_of_ble_eq_true rfl, Nat.le_of_ble_eq_true rfl⟩ (mg 319 (by decide +kernel))) nil_all))) (Or.inl (by decide +kernel))
theorem f_X9_fault : calV y_X9_fault prog_1_method_6_code 2 (Option.some Jvm.ClassFile.FieldType.int) 2 8 := ⟨⟨mem_g (i := 303) (by decide +kernel) rfl, mg 25 (by decide +kernel)⟩, by decide +kernel, by decide +kernel, by decide, mg 301 (by decide +kernel), mg 302 (by decide +kernel), _, rfl, rfl⟩
def y_X9_guest : MethodName := ⟨"ActsPaid", "guest", "(I)I"⟩
def t_X9_guest : List (Nat × Ao) := [
  (0, (7, 0, 0, 1, 0, 0, [])),
  (1, (0, 0, 0, 0, 0, 0, [])),
  (2, (1, 7, 0, 0, 0, 0, [])),
  (4, (63, 0, 0, 64, 0, 0, [])),
  (7, (42, 0, 0, 12, 0, 0, [])),
  (10, (0, (-1), 0, 0, 0, 0, [])),
  (11, (64, 0, 0, 0, 0, 0, [])),
  (12, (9, 0, 0, 0, 0, 0, [])),
  (13, (55, 0, 0, 10, 256, 226, [])),
  (16, (9, 0, 0, 0, 0, 0, [])),
  (17, (55, 0, 0, 19, 257, 227, [])),
  (20, (55, 0, 0, 68, 224, 89, [])),
  (23, (62, 0, 0, 94, 0, 0, [])),
  (26, (1, (-6), 0, 0, 0, 0, [])),
  (28, (47, 0, 0, 34, 0, 0, [])),
  (31, (1, (-5), 0, 0, 0, 0, [])),
  (33, (64, 0, 0, 0, 0, 0, [])),
  (34, (0, 0, 0, 0, 0, 0, [])),
  (35, (13, 0, 0, 2, 0, 0, [])),
  (36, (7, 0, 0, 2, 0, 0, [])),
  (37, (9, 0, 0, 0, 0, 0, [])),
  (38, (55, 0, 0, 19, 257, 227, [])),
  (41, (55, 0, 0, 68, 224, 89, [])),
  (44, (50, 0, 0, 73, 0, 0, [])),
  (47, (9, 0, 0, 0, 0, 0, [])),
  (48, (55, 0, 0, 19, 257, 227, [])),
  (51, (7, 0, 0, 1, 0, 0, [])),
  (52, (7, 0, 0, 2, 0, 0, [])),
  (53, (9, 0, 0, 0, 0, 0, [])),
  (54, (55, 0, 0, 10, 256, 226, [])),
  (57, (7, 0, 0, 2, 0, 0, [])),
  (58, (62, 0, 0, 100, 0, 0, [])),
  (61, (63, 0, 0, 103, 0, 0, [])),
  (64, (62, 0, 0, 106, 0, 0, [])),
  (67, (39, 1, 0, 2, 0, 0, [])),
  (70, (40, 0, 0, 36, 0, 0, [])),
  (73, (9, 0, 0, 0, 0, 0, [])),
  (74, (55, 0, 0, 19, 257, 227, [])),
  (77, (37, 0, 0, 0, 0, 0, [])),
  (78, (55, 0, 0, 110, 229, 109, [])),
  (81, (0, 1, 0, 0, 0, 0, [])),
  (82, (7, 0, 0, 1, 0, 0, [])),
  (83, (28, 0, 0, 0, 0, 0, [])),
  (84, (26, 0, 0, 0, 0, 0, [])),
  (85, (56, 0, 0, 110, 229, 109, [])),
  (88, (9, 0, 0, 0, 0, 0, [])),
  (89, (55, 0, 0, 10, 256, 226, [])),
  (92, (0, 0, 0, 0, 0, 0, [])),
  (93, (56, 0, 0, 91, 97, 54, [])),
  (96, (9, 0, 0, 0, 0, 0, [])),
  (97, (55, 0, 0, 19, 257, 227, [])),
  (100, (55, 0, 0, 110, 229, 109, [])),
  (103, (63, 0, 0, 113, 0, 0, [])),
  (106, (64, 0, 0, 0, 0, 0, []))]
def e_X9_guest : Ev := (t_X9_guest, [(64, (3, 1, 0, 0, s_X9_within)), (94, (2, 1, 0, 4, s_X3_guestFault)), (100, (2, 1, 0, 4, s_X3_sign)), (103, (1, 1, 0, 0, s_X3_worthTold)), (106, (4, 0, 0, 8, s_X8_putWorth)), (113, (1, 1, 0, 0, s_J6_bitCount))], 1, 0, false, 0, fun _ => 0)
def s_X9_guest : Sp := spc e_X9_guest 3
theorem m_X9_guest : monoE e_X9_guest := monoE_of (cons_all (p_X9_within) (cons_all (p_X3_guestFault) (cons_all (p_X3_sign) (cons_all (p_X3_worthTold) (cons_all (p_X8_putWorth) (cons_all (p_J6_bitCount) nil_all))))))
theorem p_X9_guest : mono s_X9_guest := spc_mono m_X9_guest _
theorem k_X9_guest (l : Launch) : Con l y_X9_guest prog_1_method_7_code 3 (Option.some Jvm.ClassFile.FieldType.int) { frames := 3, cells := 0, slots := 0, locals := 64 } 1 0 s_X9_guest := con_of l e_X9_guest y_X9_guest prog_1_method_7_code 3 (Option.some Jvm.ClassFile.FieldType.int) _ (by decide +kernel) (cons_all (clS (k_X9_within l) f_X9_within ⟨rfl, rfl, Nat.le_of_ble_eq_true rfl, Nat.le_of_ble_eq_true rfl⟩ (mg 258 (by decide +kernel))) (cons_all (clV (k_X3_guestFault l) f_X3_guestFault ⟨rfl, rfl, Nat.le_of_ble_eq_true rfl, Nat.le_of_ble_eq_true rfl⟩ (mg 304 (by decide +kernel))) (cons_all (clV (k_X3_sign l) f_X3_sign ⟨rfl, rfl, Nat.le_of_ble_eq_true rfl, Nat.le_of_ble_eq_true rfl⟩ (mg 330 (by decide +kernel))) (cons_all (clS (k_X3_worthTold l) f_X3_worthTold ⟨rfl, rfl, Nat.le_of_ble_eq_true rfl, Nat.le_of_ble_eq_true rfl⟩ (mg 331 (by decide +kernel))) (cons_all (clV (k_X8_putWorth l) f_X8_putWorth ⟨rfl, rfl, Nat.le_of_ble_eq_true rfl, Nat.le_of_ble_eq_true rfl⟩ (mg 334 (by decide +kernel))) (cons_all (clS (k_J6_bitCount l) f_J6_bitCount ⟨rfl, rfl, Nat.le_of_ble_eq_true rfl, Nat.le_of_ble_eq_true rfl⟩ (mg 338 (by decide +kernel))) nil_all)))))) (Or.inl (by decide +kernel))
theorem f_X9_guest : calV y_X9_guest prog_1_method_7_code 3 (Option.some Jvm.ClassFile.FieldType.int) 2 8 := ⟨⟨mem_g (i := 329) (by decide +kernel) rfl, mg 25 (by decide +kernel)⟩, by decide +kernel, by decide +kernel, by decide, mg 327 (by decide +kernel), mg 328 (by decide +kernel), _, rfl, rfl⟩
def y_X9_leave : MethodName := ⟨"ActsPaid", "leave", "(I)I"⟩
def t_X9_leave : List (Nat × Ao) := [
  (0, (9, 0, 0, 0, 0, 0, [])),
  (1, (55, 0, 0, 19, 257, 227, [])),
  (4, (7, 0, 0, 1, 0, 0, [])),
  (5, (62, 0, 0, 118, 0, 0, [])),
  (8, (42, 0, 0, 13, 0, 0, [])),
  (11, (0, (-1), 0, 0, 0, 0, [])),
  (12, (64, 0, 0, 0, 0, 0, [])),
  (13, (9, 0, 0, 0, 0, 0, [])),
  (14, (55, 0, 0, 19, 257, 227, [])),
  (17, (37, 0, 0, 0, 0, 0, [])),
  (18, (55, 0, 0, 110, 229, 109, [])),
  (21, (0, 1, 0, 0, 0, 0, [])),
  (22, (7, 0, 0, 1, 0, 0, [])),
  (23, (28, 0, 0, 0, 0, 0, [])),
  (24, (0, (-1), 0, 0, 0, 0, [])),
  (25, (27, 0, 0, 0, 0, 0, [])),
  (26, (25, 0, 0, 0, 0, 0, [])),
  (27, (56, 0, 0, 110, 229, 109, [])),
  (30, (9, 0, 0, 0, 0, 0, [])),
  (31, (55, 0, 0, 19, 257, 227, [])),
  (34, (55, 0, 0, 110, 229, 109, [])),
  (37, (63, 0, 0, 113, 0, 0, [])),
  (40, (64, 0, 0, 0, 0, 0, []))]
def e_X9_leave : Ev := (t_X9_leave, [(113, (1, 1, 0, 0, s_J6_bitCount)), (118, (2, 1, 0, 8, s_X8_comes))], 1, 0, false, 0, fun _ => 0)
def s_X9_leave : Sp := spc e_X9_leave 2
theorem m_X9_leave : monoE e_X9_leave := monoE_of (cons_all (p_J6_bitCount) (cons_all (p_X8_comes) nil_all))
theorem p_X9_leave : mono s_X9_leave := spc_mono m_X9_leave _
theorem k_X9_leave (l : Launch) : Con l y_X9_leave prog_1_method_8_code 2 (Option.some Jvm.ClassFile.FieldType.int) { frames := 2, cells := 0, slots := 0, locals := 43 } 1 0 s_X9_leave := con_of l e_X9_leave y_X9_leave prog_1_method_8_code 2 (Option.some Jvm.ClassFile.FieldType.int) _ (by decide +kernel) (cons_all (clS (k_J6_bitCount l) f_J6_bitCount ⟨rfl, rfl, Nat.le_of_ble_eq_true rfl, Nat.le_of_ble_eq_true rfl⟩ (mg 338 (by decide +kernel))) (cons_all (clV (k_X8_comes l) f_X8_comes ⟨rfl, rfl, Nat.le_of_ble_eq_true rfl, Nat.le_of_ble_eq_true rfl⟩ (mg 348 (by decide +kernel))) nil_all)) (Or.inl (by decide +kernel))
theorem f_X9_leave : calV y_X9_leave prog_1_method_8_code 2 (Option.some Jvm.ClassFile.FieldType.int) 2 8 := ⟨⟨mem_g (i := 347) (by decide +kernel) rfl, mg 25 (by decide +kernel)⟩, by decide +kernel, by decide +kernel, by decide, mg 345 (by decide +kernel), mg 346 (by decide +kernel), _, rfl, rfl⟩
def y_X9_worth : MethodName := ⟨"ActsPaid", "worth", "(II)I"⟩
def t_X9_worth : List (Nat × Ao) := [
  (0, (9, 0, 0, 0, 0, 0, [])),
  (1, (55, 0, 0, 19, 257, 227, [])),
  (4, (7, 0, 0, 1, 0, 0, [])),
  (5, (62, 0, 0, 118, 0, 0, [])),
  (8, (41, 0, 0, 22, 0, 0, [])),
  (11, (9, 0, 0, 0, 0, 0, [])),
  (12, (55, 0, 0, 19, 257, 227, [])),
  (15, (7, 0, 0, 2, 0, 0, [])),
  (16, (62, 0, 0, 121, 0, 0, [])),
  (19, (42, 0, 0, 24, 0, 0, [])),
  (22, (0, (-1), 0, 0, 0, 0, [])),
  (23, (64, 0, 0, 0, 0, 0, [])),
  (24, (9, 0, 0, 0, 0, 0, [])),
  (25, (55, 0, 0, 19, 257, 227, [])),
  (28, (7, 0, 0, 1, 0, 0, [])),
  (29, (7, 0, 0, 2, 0, 0, [])),
  (30, (62, 0, 0, 124, 0, 0, [])),
  (33, (1, (-10), 0, 0, 0, 0, [])),
  (35, (20, 0, 0, 0, 0, 0, [])),
  (36, (64, 0, 0, 0, 0, 0, []))]
def e_X9_worth : Ev := (t_X9_worth, [(118, (2, 1, 0, 8, s_X8_comes)), (121, (2, 1, 0, 8, s_X8_hasAct)), (124, (3, 1, 0, 8, s_X8_worthTo))], 1, 0, false, 0, fun _ => 0)
def s_X9_worth : Sp := spc e_X9_worth 3
theorem m_X9_worth : monoE e_X9_worth := monoE_of (cons_all (p_X8_comes) (cons_all (p_X8_hasAct) (cons_all (p_X8_worthTo) nil_all)))
theorem p_X9_worth : mono s_X9_worth := spc_mono m_X9_worth _
theorem k_X9_worth (l : Launch) : Con l y_X9_worth prog_1_method_9_code 3 (Option.some Jvm.ClassFile.FieldType.int) { frames := 2, cells := 0, slots := 0, locals := 43 } 1 0 s_X9_worth := con_of l e_X9_worth y_X9_worth prog_1_method_9_code 3 (Option.some Jvm.ClassFile.FieldType.int) _ (by decide +kernel) (cons_all (clV (k_X8_comes l) f_X8_comes ⟨rfl, rfl, Nat.le_of_ble_eq_true rfl, Nat.le_of_ble_eq_true rfl⟩ (mg 348 (by decide +kernel))) (cons_all (clV (k_X8_hasAct l) f_X8_hasAct ⟨rfl, rfl, Nat.le_of_ble_eq_true rfl, Nat.le_of_ble_eq_true rfl⟩ (mg 357 (by decide +kernel))) (cons_all (clV (k_X8_worthTo l) f_X8_worthTo ⟨rfl, rfl, Nat.le_of_ble_eq_true rfl, Nat.le_of_ble_eq_true rfl⟩ (mg 361 (by decide +kernel))) nil_all))) (Or.inl (by decide +kernel))
theorem f_X9_worth : calV y_X9_worth prog_1_method_9_code 3 (Option.some Jvm.ClassFile.FieldType.int) 3 8 := ⟨⟨mem_g (i := 356) (by decide +kernel) rfl, mg 25 (by decide +kernel)⟩, by decide +kernel, by decide +kernel, by decide, mg 354 (by decide +kernel), mg 355 (by decide +kernel), _, rfl, rfl⟩
def y_X9_play : MethodName := ⟨"ActsPaid", "play", "()I"⟩
def t_X9_play : List (Nat × Ao) := [
  (0, (9, 0, 0, 0, 0, 0, [])),
  (1, (55, 0, 0, 10, 256, 226, [])),
  (4, (9, 0, 0, 0, 0, 0, [])),
  (5, (55, 0, 0, 19, 257, 227, [])),
  (8, (55, 0, 0, 68, 224, 89, [])),
  (11, (62, 0, 0, 97, 0, 0, [])),
  (14, (1, (-6), 0, 0, 0, 0, [])),
  (16, (47, 0, 0, 22, 0, 0, [])),
  (19, (1, (-5), 0, 0, 0, 0, [])),
  (21, (64, 0, 0, 0, 0, 0, [])),
  (22, (0, 0, 0, 0, 0, 0, [])),
  (23, (13, 0, 0, 1, 0, 0, [])),
  (24, (7, 0, 0, 1, 0, 0, [])),
  (25, (9, 0, 0, 0, 0, 0, [])),
  (26, (55, 0, 0, 19, 257, 227, [])),
  (29, (55, 0, 0, 68, 224, 89, [])),
  (32, (50, 0, 0, 63, 0, 0, [])),
  (35, (9, 0, 0, 0, 0, 0, [])),
  (36, (55, 0, 0, 19, 257, 227, [])),
  (39, (55, 0, 0, 128, 230, 112, [])),
  (42, (7, 0, 0, 1, 0, 0, [])),
  (43, (9, 0, 0, 0, 0, 0, [])),
  (44, (55, 0, 0, 10, 256, 226, [])),
  (47, (7, 0, 0, 1, 0, 0, [])),
  (48, (62, 0, 0, 100, 0, 0, [])),
  (51, (63, 0, 0, 132, 0, 0, [])),
  (54, (63, 0, 0, 135, 0, 0, [])),
  (57, (39, 1, 0, 1, 0, 0, [])),
  (60, (40, 0, 0, 24, 0, 0, [])),
  (63, (9, 0, 0, 0, 0, 0, [])),
  (64, (55, 0, 0, 10, 256, 226, [])),
  (67, (0, 0, 0, 0, 0, 0, [])),
  (68, (56, 0, 0, 91, 97, 54, [])),
  (71, (0, 1, 0, 0, 0, 0, [])),
  (72, (64, 0, 0, 0, 0, 0, []))]
def e_X9_play : Ev := (t_X9_play, [(97, (2, 1, 0, 4, s_X3_orderFault)), (100, (2, 1, 0, 4, s_X3_sign)), (132, (1, 1, 0, 0, s_X3_actTold)), (135, (3, 0, 0, 0, s_X5_put))], 1, 0, false, 0, fun _ => 0)
def s_X9_play : Sp := spc e_X9_play 2
theorem m_X9_play : monoE e_X9_play := monoE_of (cons_all (p_X3_orderFault) (cons_all (p_X3_sign) (cons_all (p_X3_actTold) (cons_all (p_X5_put) nil_all))))
theorem p_X9_play : mono s_X9_play := spc_mono m_X9_play _
theorem k_X9_play (l : Launch) : Con l y_X9_play prog_1_method_10_code 2 (Option.some Jvm.ClassFile.FieldType.int) { frames := 3, cells := 0, slots := 0, locals := 66 } 1 0 s_X9_play := con_of l e_X9_play y_X9_play prog_1_method_10_code 2 (Option.some Jvm.ClassFile.FieldType.int) _ (by decide +kernel) (cons_all (clV (k_X3_orderFault l) f_X3_orderFault ⟨rfl, rfl, Nat.le_of_ble_eq_true rfl, Nat.le_of_ble_eq_true rfl⟩ (mg 319 (by decide +kernel))) (cons_all (clV (k_X3_sign l) f_X3_sign ⟨rfl, rfl, Nat.le_of_ble_eq_true rfl, Nat.le_of_ble_eq_true rfl⟩ (mg 330 (by decide +kernel))) (cons_all (clS (k_X3_actTold l) f_X3_actTold ⟨rfl, rfl, Nat.le_of_ble_eq_true rfl, Nat.le_of_ble_eq_true rfl⟩ (mg 370 (by decide +kernel))) (cons_all (clS (k_X5_put l) f_X5_put ⟨rfl, rfl, Nat.le_of_ble_eq_true rfl, Nat.le_of_ble_eq_true rfl⟩ (mg 371 (by decide +kernel))) nil_all)))) (Or.inl (by decide +kernel))
theorem f_X9_play : calV y_X9_play prog_1_method_10_code 2 (Option.some Jvm.ClassFile.FieldType.int) 1 8 := ⟨⟨mem_g (i := 369) (by decide +kernel) rfl, mg 25 (by decide +kernel)⟩, by decide +kernel, by decide +kernel, by decide, mg 367 (by decide +kernel), mg 368 (by decide +kernel), _, rfl, rfl⟩
def y_X9_leaves : MethodName := ⟨"ActsPaid", "leaves", "(II)I"⟩
def t_X9_leaves : List (Nat × Ao) := [
  (0, (9, 0, 0, 0, 0, 0, [])),
  (1, (55, 0, 0, 19, 257, 227, [])),
  (4, (7, 0, 0, 1, 0, 0, [])),
  (5, (62, 0, 0, 118, 0, 0, [])),
  (8, (42, 0, 0, 13, 0, 0, [])),
  (11, (0, (-1), 0, 0, 0, 0, [])),
  (12, (64, 0, 0, 0, 0, 0, [])),
  (13, (7, 0, 0, 2, 0, 0, [])),
  (14, (0, 0, 0, 0, 0, 0, [])),
  (15, (0, 2, 0, 0, 0, 0, [])),
  (16, (63, 0, 0, 64, 0, 0, [])),
  (19, (42, 0, 0, 25, 0, 0, [])),
  (22, (1, (-2), 0, 0, 0, 0, [])),
  (24, (64, 0, 0, 0, 0, 0, [])),
  (25, (9, 0, 0, 0, 0, 0, [])),
  (26, (55, 0, 0, 19, 257, 227, [])),
  (29, (7, 0, 0, 1, 0, 0, [])),
  (30, (62, 0, 0, 141, 0, 0, [])),
  (33, (13, 0, 0, 3, 0, 0, [])),
  (34, (9, 0, 0, 0, 0, 0, [])),
  (35, (55, 0, 0, 19, 257, 227, [])),
  (38, (9, 0, 0, 0, 0, 0, [])),
  (39, (55, 0, 0, 19, 257, 227, [])),
  (42, (55, 0, 0, 144, 225, 96, [])),
  (45, (7, 0, 0, 3, 0, 0, [])),
  (46, (62, 0, 0, 147, 0, 0, [])),
  (49, (14, 0, 0, 4, 0, 0, [])),
  (51, (7, 0, 0, 2, 0, 0, [])),
  (52, (69, 0, 0, 85, 0, 0, [(0, 80), (1, 82)])),
  (80, (7, 0, 0, 3, 0, 0, [])),
  (81, (64, 0, 0, 0, 0, 0, [])),
  (82, (8, 0, 0, 4, 0, 0, [])),
  (84, (64, 0, 0, 0, 0, 0, [])),
  (85, (9, 0, 0, 0, 0, 0, [])),
  (86, (55, 0, 0, 19, 257, 227, [])),
  (89, (7, 0, 0, 1, 0, 0, [])),
  (90, (7, 0, 0, 3, 0, 0, [])),
  (91, (62, 0, 0, 150, 0, 0, [])),
  (94, (8, 0, 0, 4, 0, 0, [])),
  (96, (20, 0, 0, 0, 0, 0, [])),
  (97, (64, 0, 0, 0, 0, 0, []))]
def e_X9_leaves : Ev := (t_X9_leaves, [(64, (3, 1, 0, 0, s_X9_within)), (118, (2, 1, 0, 8, s_X8_comes)), (141, (2, 1, 0, 8, s_X8_behind)), (147, (3, 1, 0, 8, s_X8_price)), (150, (3, 1, 0, 8, s_X8_worthOfFirst))], 1, 0, false, 0, fun _ => 0)
def s_X9_leaves : Sp := spc e_X9_leaves 5
theorem m_X9_leaves : monoE e_X9_leaves := monoE_of (cons_all (p_X9_within) (cons_all (p_X8_comes) (cons_all (p_X8_behind) (cons_all (p_X8_price) (cons_all (p_X8_worthOfFirst) nil_all)))))
theorem p_X9_leaves : mono s_X9_leaves := spc_mono m_X9_leaves _
theorem k_X9_leaves (l : Launch) : Con l y_X9_leaves prog_1_method_11_code 5 (Option.some Jvm.ClassFile.FieldType.int) { frames := 3, cells := 0, slots := 0, locals := 69 } 1 0 s_X9_leaves := con_of l e_X9_leaves y_X9_leaves prog_1_method_11_code 5 (Option.some Jvm.ClassFile.FieldType.int) _ (by decide +kernel) (cons_all (clS (k_X9_within l) f_X9_within ⟨rfl, rfl, Nat.le_of_ble_eq_true rfl, Nat.le_of_ble_eq_true rfl⟩ (mg 258 (by decide +kernel))) (cons_all (clV (k_X8_comes l) f_X8_comes ⟨rfl, rfl, Nat.le_of_ble_eq_true rfl, Nat.le_of_ble_eq_true rfl⟩ (mg 348 (by decide +kernel))) (cons_all (clV (k_X8_behind l) f_X8_behind ⟨rfl, rfl, Nat.le_of_ble_eq_true rfl, Nat.le_of_ble_eq_true rfl⟩ (mg 376 (by decide +kernel))) (cons_all (clV (k_X8_price l) f_X8_price ⟨rfl, rfl, Nat.le_of_ble_eq_true rfl, Nat.le_of_ble_eq_true rfl⟩ (mg 384 (by decide +kernel))) (cons_all (clV (k_X8_worthOfFirst l) f_X8_worthOfFirst ⟨rfl, rfl, Nat.le_of_ble_eq_true rfl, Nat.le_of_ble_eq_true rfl⟩ (mg 388 (by decide +kernel))) nil_all))))) (Or.inl (by decide +kernel))
theorem f_X9_leaves : calV y_X9_leaves prog_1_method_11_code 5 (Option.some Jvm.ClassFile.FieldType.int) 3 8 := ⟨⟨mem_g (i := 375) (by decide +kernel) rfl, mg 25 (by decide +kernel)⟩, by decide +kernel, by decide +kernel, by decide, mg 373 (by decide +kernel), mg 374 (by decide +kernel), _, rfl, rfl⟩
def y_X9_takings : MethodName := ⟨"ActsPaid", "takings", "()I"⟩
def t_X9_takings : List (Nat × Ao) := [
  (0, (9, 0, 0, 0, 0, 0, [])),
  (1, (55, 0, 0, 19, 257, 227, [])),
  (4, (62, 0, 0, 153, 0, 0, [])),
  (7, (64, 0, 0, 0, 0, 0, []))]
def e_X9_takings : Ev := (t_X9_takings, [(153, (1, 1, 0, 8, s_X8_allPay))], 1, 0, false, 0, fun _ => 0)
def s_X9_takings : Sp := spc e_X9_takings 1
theorem m_X9_takings : monoE e_X9_takings := monoE_of (cons_all (p_X8_allPay) nil_all)
theorem p_X9_takings : mono s_X9_takings := spc_mono m_X9_takings _
theorem k_X9_takings (l : Launch) : Con l y_X9_takings prog_1_method_12_code 1 (Option.some Jvm.ClassFile.FieldType.int) { frames := 5, cells := 0, slots := 0, locals := 112 } 1 0 s_X9_takings := con_of l e_X9_takings y_X9_takings prog_1_method_12_code 1 (Option.some Jvm.ClassFile.FieldType.int) _ (by decide +kernel) (cons_all (clV (k_X8_allPay l) f_X8_allPay ⟨rfl, rfl, Nat.le_of_ble_eq_true rfl, Nat.le_of_ble_eq_true rfl⟩ (mg 396 (by decide +kernel))) nil_all) (Or.inl (by decide +kernel))
theorem f_X9_takings : calV y_X9_takings prog_1_method_12_code 1 (Option.some Jvm.ClassFile.FieldType.int) 1 8 := ⟨⟨mem_g (i := 395) (by decide +kernel) rfl, mg 25 (by decide +kernel)⟩, by decide +kernel, by decide +kernel, by decide, mg 393 (by decide +kernel), mg 394 (by decide +kernel), _, rfl, rfl⟩
def y_X9_stayed : MethodName := ⟨"ActsPaid", "stayed", "(I)I"⟩
def t_X9_stayed : List (Nat × Ao) := [
  (0, (9, 0, 0, 0, 0, 0, [])),
  (1, (55, 0, 0, 19, 257, 227, [])),
  (4, (7, 0, 0, 1, 0, 0, [])),
  (5, (62, 0, 0, 121, 0, 0, [])),
  (8, (42, 0, 0, 13, 0, 0, [])),
  (11, (0, (-1), 0, 0, 0, 0, [])),
  (12, (64, 0, 0, 0, 0, 0, [])),
  (13, (0, 0, 0, 0, 0, 0, [])),
  (14, (13, 0, 0, 2, 0, 0, [])),
  (15, (0, 0, 0, 0, 0, 0, [])),
  (16, (13, 0, 0, 3, 0, 0, [])),
  (17, (7, 0, 0, 3, 0, 0, [])),
  (18, (1, 8, 0, 0, 0, 0, [])),
  (20, (50, 0, 0, 55, 0, 0, [])),
  (23, (9, 0, 0, 0, 0, 0, [])),
  (24, (55, 0, 0, 19, 257, 227, [])),
  (27, (7, 0, 0, 3, 0, 0, [])),
  (28, (62, 0, 0, 118, 0, 0, [])),
  (31, (41, 0, 0, 49, 0, 0, [])),
  (34, (9, 0, 0, 0, 0, 0, [])),
  (35, (55, 0, 0, 19, 257, 227, [])),
  (38, (7, 0, 0, 3, 0, 0, [])),
  (39, (62, 0, 0, 141, 0, 0, [])),
  (42, (7, 0, 0, 1, 0, 0, [])),
  (43, (52, 0, 0, 49, 0, 0, [])),
  (46, (39, 1, 0, 2, 0, 0, [])),
  (49, (39, 1, 0, 3, 0, 0, [])),
  (52, (40, 0, 0, 17, 0, 0, [])),
  (55, (7, 0, 0, 2, 0, 0, [])),
  (56, (64, 0, 0, 0, 0, 0, []))]
def e_X9_stayed : Ev := (t_X9_stayed, [(118, (2, 1, 0, 8, s_X8_comes)), (121, (2, 1, 0, 8, s_X8_hasAct)), (141, (2, 1, 0, 8, s_X8_behind))], 1, 0, false, 0, fun _ => 0)
def s_X9_stayed : Sp := spc e_X9_stayed 4
theorem m_X9_stayed : monoE e_X9_stayed := monoE_of (cons_all (p_X8_comes) (cons_all (p_X8_hasAct) (cons_all (p_X8_behind) nil_all)))
theorem p_X9_stayed : mono s_X9_stayed := spc_mono m_X9_stayed _
theorem k_X9_stayed (l : Launch) : Con l y_X9_stayed prog_1_method_13_code 4 (Option.some Jvm.ClassFile.FieldType.int) { frames := 3, cells := 0, slots := 0, locals := 69 } 1 0 s_X9_stayed := con_of l e_X9_stayed y_X9_stayed prog_1_method_13_code 4 (Option.some Jvm.ClassFile.FieldType.int) _ (by decide +kernel) (cons_all (clV (k_X8_comes l) f_X8_comes ⟨rfl, rfl, Nat.le_of_ble_eq_true rfl, Nat.le_of_ble_eq_true rfl⟩ (mg 348 (by decide +kernel))) (cons_all (clV (k_X8_hasAct l) f_X8_hasAct ⟨rfl, rfl, Nat.le_of_ble_eq_true rfl, Nat.le_of_ble_eq_true rfl⟩ (mg 357 (by decide +kernel))) (cons_all (clV (k_X8_behind l) f_X8_behind ⟨rfl, rfl, Nat.le_of_ble_eq_true rfl, Nat.le_of_ble_eq_true rfl⟩ (mg 376 (by decide +kernel))) nil_all))) (Or.inl (by decide +kernel))
theorem f_X9_stayed : calV y_X9_stayed prog_1_method_13_code 4 (Option.some Jvm.ClassFile.FieldType.int) 2 8 := ⟨⟨mem_g (i := 410) (by decide +kernel) rfl, mg 25 (by decide +kernel)⟩, by decide +kernel, by decide +kernel, by decide, mg 408 (by decide +kernel), mg 409 (by decide +kernel), _, rfl, rfl⟩
def y_X9_tried : MethodName := ⟨"ActsPaid", "tried", "()LActsPaid$Stage;"⟩
def t_X9_tried : List (Nat × Ao) := [
  (0, (9, 0, 0, 0, 0, 0, [])),
  (1, (55, 0, 0, 23, 258, 228, [])),
  (4, (9, 0, 0, 0, 0, 0, [])),
  (5, (55, 0, 0, 19, 257, 227, [])),
  (8, (62, 0, 0, 244, 0, 0, [])),
  (11, (9, 0, 0, 0, 0, 0, [])),
  (12, (55, 0, 0, 23, 258, 228, [])),
  (15, (67, 0, 0, 0, 0, 0, []))]
def e_X9_tried : Ev := (t_X9_tried, [(244, (2, 0, 0, 8, s_X8_copyFrom))], 3, 7, false, 0, fun _ => 0)
def s_X9_tried : Sp := spc e_X9_tried 1
theorem m_X9_tried : monoE e_X9_tried := monoE_of (cons_all (p_X8_copyFrom) nil_all)
theorem p_X9_tried : mono s_X9_tried := spc_mono m_X9_tried _
theorem k_X9_tried (l : Launch) : Con l y_X9_tried prog_1_method_33_code 1 (Option.some (Jvm.ClassFile.FieldType.object "ActsPaid$Stage")) { frames := 3, cells := 0, slots := 0, locals := 64 } 3 7 s_X9_tried := con_of l e_X9_tried y_X9_tried prog_1_method_33_code 1 (Option.some (Jvm.ClassFile.FieldType.object "ActsPaid$Stage")) _ (by decide +kernel) (cons_all (clV (k_X8_copyFrom l) f_X8_copyFrom ⟨rfl, rfl, Nat.le_of_ble_eq_true rfl, Nat.le_of_ble_eq_true rfl⟩ (mg 419 (by decide +kernel))) nil_all) (Or.inl (by decide +kernel))
theorem f_X9_tried : calV y_X9_tried prog_1_method_33_code 1 (Option.some (Jvm.ClassFile.FieldType.object "ActsPaid$Stage")) 1 8 := ⟨⟨mem_g (i := 418) (by decide +kernel) rfl, mg 25 (by decide +kernel)⟩, by decide +kernel, by decide +kernel, by decide, mg 417 (by decide +kernel), mg 0 (by decide +kernel), _, rfl, rfl⟩
def y_X9_fares : MethodName := ⟨"ActsPaid", "fares", "(I)I"⟩
def t_X9_fares : List (Nat × Ao) := [
  (0, (7, 0, 0, 1, 0, 0, [])),
  (1, (0, 0, 0, 0, 0, 0, [])),
  (2, (0, 2, 0, 0, 0, 0, [])),
  (3, (63, 0, 0, 64, 0, 0, [])),
  (6, (42, 0, 0, 12, 0, 0, [])),
  (9, (1, (-2), 0, 0, 0, 0, [])),
  (11, (64, 0, 0, 0, 0, 0, [])),
  (12, (9, 0, 0, 0, 0, 0, [])),
  (13, (62, 0, 0, 157, 0, 0, [])),
  (16, (7, 0, 0, 1, 0, 0, [])),
  (17, (63, 0, 0, 161, 0, 0, [])),
  (20, (64, 0, 0, 0, 0, 0, []))]
def e_X9_fares : Ev := (t_X9_fares, [(64, (3, 1, 0, 0, s_X9_within)), (157, (1, 3, 7, 9, s_X9_tried)), (161, (2, 1, 0, 0, s_X4_faresForMost))], 1, 0, false, 0, fun _ => 0)
def s_X9_fares : Sp := spc e_X9_fares 2
theorem m_X9_fares : monoE e_X9_fares := monoE_of (cons_all (p_X9_within) (cons_all (p_X9_tried) (cons_all (p_X4_faresForMost) nil_all)))
theorem p_X9_fares : mono s_X9_fares := spc_mono m_X9_fares _
theorem k_X9_fares (l : Launch) : Con l y_X9_fares prog_1_method_14_code 2 (Option.some Jvm.ClassFile.FieldType.int) { frames := 6, cells := 0, slots := 0, locals := 137 } 1 0 s_X9_fares := con_of l e_X9_fares y_X9_fares prog_1_method_14_code 2 (Option.some Jvm.ClassFile.FieldType.int) _ (by decide +kernel) (cons_all (clS (k_X9_within l) f_X9_within ⟨rfl, rfl, Nat.le_of_ble_eq_true rfl, Nat.le_of_ble_eq_true rfl⟩ (mg 258 (by decide +kernel))) (cons_all (clV (k_X9_tried l) f_X9_tried ⟨rfl, rfl, Nat.le_of_ble_eq_true rfl, Nat.le_of_ble_eq_true rfl⟩ (mg 415 (by decide +kernel))) (cons_all (clS (k_X4_faresForMost l) f_X4_faresForMost ⟨rfl, rfl, Nat.le_of_ble_eq_true rfl, Nat.le_of_ble_eq_true rfl⟩ (mg 431 (by decide +kernel))) nil_all))) (Or.inl (by decide +kernel))
theorem f_X9_fares : calV y_X9_fares prog_1_method_14_code 2 (Option.some Jvm.ClassFile.FieldType.int) 2 8 := ⟨⟨mem_g (i := 414) (by decide +kernel) rfl, mg 25 (by decide +kernel)⟩, by decide +kernel, by decide +kernel, by decide, mg 412 (by decide +kernel), mg 413 (by decide +kernel), _, rfl, rfl⟩
def y_X9_must : MethodName := ⟨"ActsPaid", "must", "(II)I"⟩
def t_X9_must : List (Nat × Ao) := [
  (0, (9, 0, 0, 0, 0, 0, [])),
  (1, (55, 0, 0, 19, 257, 227, [])),
  (4, (7, 0, 0, 1, 0, 0, [])),
  (5, (62, 0, 0, 121, 0, 0, [])),
  (8, (41, 0, 0, 27, 0, 0, [])),
  (11, (9, 0, 0, 0, 0, 0, [])),
  (12, (55, 0, 0, 19, 257, 227, [])),
  (15, (7, 0, 0, 2, 0, 0, [])),
  (16, (62, 0, 0, 121, 0, 0, [])),
  (19, (41, 0, 0, 27, 0, 0, [])),
  (22, (7, 0, 0, 1, 0, 0, [])),
  (23, (7, 0, 0, 2, 0, 0, [])),
  (24, (48, 0, 0, 29, 0, 0, [])),
  (27, (0, (-1), 0, 0, 0, 0, [])),
  (28, (64, 0, 0, 0, 0, 0, [])),
  (29, (9, 0, 0, 0, 0, 0, [])),
  (30, (55, 0, 0, 19, 257, 227, [])),
  (33, (7, 0, 0, 1, 0, 0, [])),
  (34, (7, 0, 0, 2, 0, 0, [])),
  (35, (62, 0, 0, 165, 0, 0, [])),
  (38, (41, 0, 0, 44, 0, 0, [])),
  (41, (1, (-3), 0, 0, 0, 0, [])),
  (43, (64, 0, 0, 0, 0, 0, [])),
  (44, (9, 0, 0, 0, 0, 0, [])),
  (45, (55, 0, 0, 19, 257, 227, [])),
  (48, (7, 0, 0, 2, 0, 0, [])),
  (49, (7, 0, 0, 1, 0, 0, [])),
  (50, (62, 0, 0, 169, 0, 0, [])),
  (53, (0, 1, 0, 0, 0, 0, [])),
  (54, (64, 0, 0, 0, 0, 0, []))]
def e_X9_must : Ev := (t_X9_must, [(121, (2, 1, 0, 8, s_X8_hasAct)), (165, (3, 1, 0, 8, s_X8_isAfter)), (169, (3, 0, 0, 8, s_X8_putAfter))], 1, 0, false, 0, fun _ => 0)
def s_X9_must : Sp := spc e_X9_must 3
theorem m_X9_must : monoE e_X9_must := monoE_of (cons_all (p_X8_hasAct) (cons_all (p_X8_isAfter) (cons_all (p_X8_putAfter) nil_all)))
theorem p_X9_must : mono s_X9_must := spc_mono m_X9_must _
theorem k_X9_must (l : Launch) : Con l y_X9_must prog_1_method_15_code 3 (Option.some Jvm.ClassFile.FieldType.int) { frames := 3, cells := 0, slots := 0, locals := 67 } 1 0 s_X9_must := con_of l e_X9_must y_X9_must prog_1_method_15_code 3 (Option.some Jvm.ClassFile.FieldType.int) _ (by decide +kernel) (cons_all (clV (k_X8_hasAct l) f_X8_hasAct ⟨rfl, rfl, Nat.le_of_ble_eq_true rfl, Nat.le_of_ble_eq_true rfl⟩ (mg 357 (by decide +kernel))) (cons_all (clV (k_X8_isAfter l) f_X8_isAfter ⟨rfl, rfl, Nat.le_of_ble_eq_true rfl, Nat.le_of_ble_eq_true rfl⟩ (mg 439 (by decide +kernel))) (cons_all (clV (k_X8_putAfter l) f_X8_putAfter ⟨rfl, rfl, Nat.le_of_ble_eq_true rfl, Nat.le_of_ble_eq_true rfl⟩ (mg 443 (by decide +kernel))) nil_all))) (Or.inl (by decide +kernel))
theorem f_X9_must : calV y_X9_must prog_1_method_15_code 3 (Option.some Jvm.ClassFile.FieldType.int) 3 8 := ⟨⟨mem_g (i := 438) (by decide +kernel) rfl, mg 25 (by decide +kernel)⟩, by decide +kernel, by decide +kernel, by decide, mg 436 (by decide +kernel), mg 437 (by decide +kernel), _, rfl, rfl⟩
def y_X9_order : MethodName := ⟨"ActsPaid", "order", "(I)I"⟩
def t_X9_order : List (Nat × Ao) := [
  (0, (7, 0, 0, 1, 0, 0, [])),
  (1, (0, (-1), 0, 0, 0, 0, [])),
  (2, (9, 0, 0, 0, 0, 0, [])),
  (3, (55, 0, 0, 19, 257, 227, [])),
  (6, (55, 0, 0, 68, 224, 89, [])),
  (9, (0, 1, 0, 0, 0, 0, [])),
  (10, (20, 0, 0, 0, 0, 0, [])),
  (11, (63, 0, 0, 64, 0, 0, [])),
  (14, (42, 0, 0, 20, 0, 0, [])),
  (17, (1, (-6), 0, 0, 0, 0, [])),
  (19, (64, 0, 0, 0, 0, 0, [])),
  (20, (9, 0, 0, 0, 0, 0, [])),
  (21, (55, 0, 0, 39, 261, 231, [])),
  (24, (9, 0, 0, 0, 0, 0, [])),
  (25, (62, 0, 0, 157, 0, 0, [])),
  (28, (7, 0, 0, 1, 0, 0, [])),
  (29, (62, 0, 0, 172, 0, 0, [])),
  (32, (64, 0, 0, 0, 0, 0, []))]
def e_X9_order : Ev := (t_X9_order, [(64, (3, 1, 0, 0, s_X9_within)), (157, (1, 3, 7, 9, s_X9_tried)), (172, (3, 1, 0, 5, s_X4_orderForMost))], 1, 0, false, 0, fun _ => 0)
def s_X9_order : Sp := spc e_X9_order 2
theorem m_X9_order : monoE e_X9_order := monoE_of (cons_all (p_X9_within) (cons_all (p_X9_tried) (cons_all (p_X4_orderForMost) nil_all)))
theorem p_X9_order : mono s_X9_order := spc_mono m_X9_order _
theorem k_X9_order (l : Launch) : Con l y_X9_order prog_1_method_16_code 2 (Option.some Jvm.ClassFile.FieldType.int) { frames := 6, cells := 0, slots := 0, locals := 137 } 1 0 s_X9_order := con_of l e_X9_order y_X9_order prog_1_method_16_code 2 (Option.some Jvm.ClassFile.FieldType.int) _ (by decide +kernel) (cons_all (clS (k_X9_within l) f_X9_within ⟨rfl, rfl, Nat.le_of_ble_eq_true rfl, Nat.le_of_ble_eq_true rfl⟩ (mg 258 (by decide +kernel))) (cons_all (clV (k_X9_tried l) f_X9_tried ⟨rfl, rfl, Nat.le_of_ble_eq_true rfl, Nat.le_of_ble_eq_true rfl⟩ (mg 415 (by decide +kernel))) (cons_all (clV (k_X4_orderForMost l) f_X4_orderForMost ⟨rfl, rfl, Nat.le_of_ble_eq_true rfl, Nat.le_of_ble_eq_true rfl⟩ (mg 452 (by decide +kernel))) nil_all))) (Or.inl (by decide +kernel))
theorem f_X9_order : calV y_X9_order prog_1_method_16_code 2 (Option.some Jvm.ClassFile.FieldType.int) 2 8 := ⟨⟨mem_g (i := 451) (by decide +kernel) rfl, mg 25 (by decide +kernel)⟩, by decide +kernel, by decide +kernel, by decide, mg 449 (by decide +kernel), mg 450 (by decide +kernel), _, rfl, rfl⟩
def y_X9_claque : MethodName := ⟨"ActsPaid", "claque", "(II)I"⟩
def t_X9_claque : List (Nat × Ao) := [
  (0, (7, 0, 0, 1, 0, 0, [])),
  (1, (0, 1, 0, 0, 0, 0, [])),
  (2, (1, 25, 0, 0, 0, 0, [])),
  (4, (63, 0, 0, 64, 0, 0, [])),
  (7, (41, 0, 0, 19, 0, 0, [])),
  (10, (7, 0, 0, 2, 0, 0, [])),
  (11, (0, 0, 0, 0, 0, 0, [])),
  (12, (0, 1, 0, 0, 0, 0, [])),
  (13, (63, 0, 0, 64, 0, 0, [])),
  (16, (42, 0, 0, 22, 0, 0, [])),
  (19, (1, (-2), 0, 0, 0, 0, [])),
  (21, (64, 0, 0, 0, 0, 0, [])),
  (22, (9, 0, 0, 0, 0, 0, [])),
  (23, (62, 0, 0, 157, 0, 0, [])),
  (26, (7, 0, 0, 1, 0, 0, [])),
  (27, (7, 0, 0, 2, 0, 0, [])),
  (28, (63, 0, 0, 175, 0, 0, [])),
  (31, (64, 0, 0, 0, 0, 0, []))]
def e_X9_claque : Ev := (t_X9_claque, [(64, (3, 1, 0, 0, s_X9_within)), (157, (1, 3, 7, 9, s_X9_tried)), (175, (3, 1, 0, 0, s_X4_actForClaque))], 1, 0, false, 0, fun _ => 0)
def s_X9_claque : Sp := spc e_X9_claque 3
theorem m_X9_claque : monoE e_X9_claque := monoE_of (cons_all (p_X9_within) (cons_all (p_X9_tried) (cons_all (p_X4_actForClaque) nil_all)))
theorem p_X9_claque : mono s_X9_claque := spc_mono m_X9_claque _
theorem k_X9_claque (l : Launch) : Con l y_X9_claque prog_1_method_17_code 3 (Option.some Jvm.ClassFile.FieldType.int) { frames := 6, cells := 0, slots := 0, locals := 138 } 1 0 s_X9_claque := con_of l e_X9_claque y_X9_claque prog_1_method_17_code 3 (Option.some Jvm.ClassFile.FieldType.int) _ (by decide +kernel) (cons_all (clS (k_X9_within l) f_X9_within ⟨rfl, rfl, Nat.le_of_ble_eq_true rfl, Nat.le_of_ble_eq_true rfl⟩ (mg 258 (by decide +kernel))) (cons_all (clV (k_X9_tried l) f_X9_tried ⟨rfl, rfl, Nat.le_of_ble_eq_true rfl, Nat.le_of_ble_eq_true rfl⟩ (mg 415 (by decide +kernel))) (cons_all (clS (k_X4_actForClaque l) f_X4_actForClaque ⟨rfl, rfl, Nat.le_of_ble_eq_true rfl, Nat.le_of_ble_eq_true rfl⟩ (mg 475 (by decide +kernel))) nil_all))) (Or.inl (by decide +kernel))
theorem f_X9_claque : calV y_X9_claque prog_1_method_17_code 3 (Option.some Jvm.ClassFile.FieldType.int) 3 8 := ⟨⟨mem_g (i := 474) (by decide +kernel) rfl, mg 25 (by decide +kernel)⟩, by decide +kernel, by decide +kernel, by decide, mg 472 (by decide +kernel), mg 473 (by decide +kernel), _, rfl, rfl⟩
def y_X9_friends : MethodName := ⟨"ActsPaid", "friends", "(II)I"⟩
def t_X9_friends : List (Nat × Ao) := [
  (0, (7, 0, 0, 1, 0, 0, [])),
  (1, (0, 0, 0, 0, 0, 0, [])),
  (2, (1, 7, 0, 0, 0, 0, [])),
  (4, (63, 0, 0, 64, 0, 0, [])),
  (7, (41, 0, 0, 24, 0, 0, [])),
  (10, (7, 0, 0, 2, 0, 0, [])),
  (11, (0, 0, 0, 0, 0, 0, [])),
  (12, (1, 7, 0, 0, 0, 0, [])),
  (14, (63, 0, 0, 64, 0, 0, [])),
  (17, (41, 0, 0, 24, 0, 0, [])),
  (20, (0, 1, 0, 0, 0, 0, [])),
  (21, (40, 0, 0, 25, 0, 0, [])),
  (24, (0, 0, 0, 0, 0, 0, [])),
  (25, (13, 0, 0, 3, 0, 0, [])),
  (26, (7, 0, 0, 3, 0, 0, [])),
  (27, (41, 0, 0, 35, 0, 0, [])),
  (30, (7, 0, 0, 1, 0, 0, [])),
  (31, (7, 0, 0, 2, 0, 0, [])),
  (32, (48, 0, 0, 37, 0, 0, [])),
  (35, (0, (-1), 0, 0, 0, 0, [])),
  (36, (64, 0, 0, 0, 0, 0, [])),
  (37, (9, 0, 0, 0, 0, 0, [])),
  (38, (55, 0, 0, 19, 257, 227, [])),
  (41, (7, 0, 0, 1, 0, 0, [])),
  (42, (7, 0, 0, 2, 0, 0, [])),
  (43, (62, 0, 0, 179, 0, 0, [])),
  (46, (9, 0, 0, 0, 0, 0, [])),
  (47, (55, 0, 0, 19, 257, 227, [])),
  (50, (7, 0, 0, 2, 0, 0, [])),
  (51, (7, 0, 0, 1, 0, 0, [])),
  (52, (62, 0, 0, 179, 0, 0, [])),
  (55, (0, 1, 0, 0, 0, 0, [])),
  (56, (64, 0, 0, 0, 0, 0, []))]
def e_X9_friends : Ev := (t_X9_friends, [(64, (3, 1, 0, 0, s_X9_within)), (179, (3, 0, 0, 8, s_X8_befriend))], 1, 0, false, 0, fun _ => 0)
def s_X9_friends : Sp := spc e_X9_friends 4
theorem m_X9_friends : monoE e_X9_friends := monoE_of (cons_all (p_X9_within) (cons_all (p_X8_befriend) nil_all))
theorem p_X9_friends : mono s_X9_friends := spc_mono m_X9_friends _
theorem k_X9_friends (l : Launch) : Con l y_X9_friends prog_1_method_18_code 4 (Option.some Jvm.ClassFile.FieldType.int) { frames := 2, cells := 0, slots := 0, locals := 44 } 1 0 s_X9_friends := con_of l e_X9_friends y_X9_friends prog_1_method_18_code 4 (Option.some Jvm.ClassFile.FieldType.int) _ (by decide +kernel) (cons_all (clS (k_X9_within l) f_X9_within ⟨rfl, rfl, Nat.le_of_ble_eq_true rfl, Nat.le_of_ble_eq_true rfl⟩ (mg 258 (by decide +kernel))) (cons_all (clV (k_X8_befriend l) f_X8_befriend ⟨rfl, rfl, Nat.le_of_ble_eq_true rfl, Nat.le_of_ble_eq_true rfl⟩ (mg 487 (by decide +kernel))) nil_all)) (Or.inl (by decide +kernel))
theorem f_X9_friends : calV y_X9_friends prog_1_method_18_code 4 (Option.some Jvm.ClassFile.FieldType.int) 3 8 := ⟨⟨mem_g (i := 486) (by decide +kernel) rfl, mg 25 (by decide +kernel)⟩, by decide +kernel, by decide +kernel, by decide, mg 484 (by decide +kernel), mg 485 (by decide +kernel), _, rfl, rfl⟩
def y_X9_seating : MethodName := ⟨"ActsPaid", "seating", "(I)I"⟩
def t_X9_seating : List (Nat × Ao) := [
  (0, (9, 0, 0, 0, 0, 0, [])),
  (1, (55, 0, 0, 46, 262, 232, [])),
  (4, (9, 0, 0, 0, 0, 0, [])),
  (5, (55, 0, 0, 19, 257, 227, [])),
  (8, (7, 0, 0, 1, 0, 0, [])),
  (9, (62, 0, 0, 182, 0, 0, [])),
  (12, (64, 0, 0, 0, 0, 0, []))]
def e_X9_seating : Ev := (t_X9_seating, [(182, (3, 1, 0, 6, s_X6_seated))], 1, 0, false, 0, fun _ => 0)
def s_X9_seating : Sp := spc e_X9_seating 2
theorem m_X9_seating : monoE e_X9_seating := monoE_of (cons_all (p_X6_seated) nil_all)
theorem p_X9_seating : mono s_X9_seating := spc_mono m_X9_seating _
theorem k_X9_seating (l : Launch) : Con l y_X9_seating prog_1_method_19_code 2 (Option.some Jvm.ClassFile.FieldType.int) { frames := 6, cells := 0, slots := 0, locals := 140 } 1 0 s_X9_seating := con_of l e_X9_seating y_X9_seating prog_1_method_19_code 2 (Option.some Jvm.ClassFile.FieldType.int) _ (by decide +kernel) (cons_all (clV (k_X6_seated l) f_X6_seated ⟨rfl, rfl, Nat.le_of_ble_eq_true rfl, Nat.le_of_ble_eq_true rfl⟩ (mg 495 (by decide +kernel))) nil_all) (Or.inl (by decide +kernel))
theorem f_X9_seating : calV y_X9_seating prog_1_method_19_code 2 (Option.some Jvm.ClassFile.FieldType.int) 2 8 := ⟨⟨mem_g (i := 494) (by decide +kernel) rfl, mg 25 (by decide +kernel)⟩, by decide +kernel, by decide +kernel, by decide, mg 492 (by decide +kernel), mg 493 (by decide +kernel), _, rfl, rfl⟩
def y_X9_other : MethodName := ⟨"ActsPaid", "other", "(II)I"⟩
def t_X9_other : List (Nat × Ao) := [
  (0, (9, 0, 0, 0, 0, 0, [])),
  (1, (55, 0, 0, 19, 257, 227, [])),
  (4, (7, 0, 0, 1, 0, 0, [])),
  (5, (62, 0, 0, 121, 0, 0, [])),
  (8, (42, 0, 0, 13, 0, 0, [])),
  (11, (0, (-1), 0, 0, 0, 0, [])),
  (12, (64, 0, 0, 0, 0, 0, [])),
  (13, (7, 0, 0, 2, 0, 0, [])),
  (14, (0, 0, 0, 0, 0, 0, [])),
  (15, (1, 25, 0, 0, 0, 0, [])),
  (17, (63, 0, 0, 64, 0, 0, [])),
  (20, (42, 0, 0, 26, 0, 0, [])),
  (23, (1, (-2), 0, 0, 0, 0, [])),
  (25, (64, 0, 0, 0, 0, 0, [])),
  (26, (9, 0, 0, 0, 0, 0, [])),
  (27, (55, 0, 0, 19, 257, 227, [])),
  (30, (55, 0, 0, 185, 232, 116, [])),
  (33, (7, 0, 0, 1, 0, 0, [])),
  (34, (63, 0, 0, 188, 0, 0, [])),
  (37, (13, 0, 0, 3, 0, 0, [])),
  (38, (9, 0, 0, 0, 0, 0, [])),
  (39, (55, 0, 0, 19, 257, 227, [])),
  (42, (55, 0, 0, 185, 232, 116, [])),
  (45, (7, 0, 0, 1, 0, 0, [])),
  (46, (7, 0, 0, 2, 0, 0, [])),
  (47, (63, 0, 0, 135, 0, 0, [])),
  (50, (7, 0, 0, 3, 0, 0, [])),
  (51, (64, 0, 0, 0, 0, 0, []))]
def e_X9_other : Ev := (t_X9_other, [(64, (3, 1, 0, 0, s_X9_within)), (121, (2, 1, 0, 8, s_X8_hasAct)), (135, (3, 0, 0, 0, s_X5_put)), (188, (2, 1, 0, 0, s_X5_at))], 1, 0, false, 0, fun _ => 0)
def s_X9_other : Sp := spc e_X9_other 4
theorem m_X9_other : monoE e_X9_other := monoE_of (cons_all (p_X9_within) (cons_all (p_X8_hasAct) (cons_all (p_X5_put) (cons_all (p_X5_at) nil_all))))
theorem p_X9_other : mono s_X9_other := spc_mono m_X9_other _
theorem k_X9_other (l : Launch) : Con l y_X9_other prog_1_method_20_code 4 (Option.some Jvm.ClassFile.FieldType.int) { frames := 2, cells := 0, slots := 0, locals := 43 } 1 0 s_X9_other := con_of l e_X9_other y_X9_other prog_1_method_20_code 4 (Option.some Jvm.ClassFile.FieldType.int) _ (by decide +kernel) (cons_all (clS (k_X9_within l) f_X9_within ⟨rfl, rfl, Nat.le_of_ble_eq_true rfl, Nat.le_of_ble_eq_true rfl⟩ (mg 258 (by decide +kernel))) (cons_all (clV (k_X8_hasAct l) f_X8_hasAct ⟨rfl, rfl, Nat.le_of_ble_eq_true rfl, Nat.le_of_ble_eq_true rfl⟩ (mg 357 (by decide +kernel))) (cons_all (clS (k_X5_put l) f_X5_put ⟨rfl, rfl, Nat.le_of_ble_eq_true rfl, Nat.le_of_ble_eq_true rfl⟩ (mg 371 (by decide +kernel))) (cons_all (clS (k_X5_at l) f_X5_at ⟨rfl, rfl, Nat.le_of_ble_eq_true rfl, Nat.le_of_ble_eq_true rfl⟩ (mg 538 (by decide +kernel))) nil_all)))) (Or.inl (by decide +kernel))
theorem f_X9_other : calV y_X9_other prog_1_method_20_code 4 (Option.some Jvm.ClassFile.FieldType.int) 3 8 := ⟨⟨mem_g (i := 537) (by decide +kernel) rfl, mg 25 (by decide +kernel)⟩, by decide +kernel, by decide +kernel, by decide, mg 535 (by decide +kernel), mg 536 (by decide +kernel), _, rfl, rfl⟩
def y_X9_over : MethodName := ⟨"ActsPaid", "over", "(II)I"⟩
def t_X9_over : List (Nat × Ao) := [
  (0, (9, 0, 0, 0, 0, 0, [])),
  (1, (55, 0, 0, 19, 257, 227, [])),
  (4, (7, 0, 0, 1, 0, 0, [])),
  (5, (62, 0, 0, 118, 0, 0, [])),
  (8, (42, 0, 0, 13, 0, 0, [])),
  (11, (0, (-1), 0, 0, 0, 0, [])),
  (12, (64, 0, 0, 0, 0, 0, [])),
  (13, (7, 0, 0, 2, 0, 0, [])),
  (14, (0, 0, 0, 0, 0, 0, [])),
  (15, (0, 1, 0, 0, 0, 0, [])),
  (16, (63, 0, 0, 64, 0, 0, [])),
  (19, (42, 0, 0, 25, 0, 0, [])),
  (22, (1, (-2), 0, 0, 0, 0, [])),
  (24, (64, 0, 0, 0, 0, 0, [])),
  (25, (9, 0, 0, 0, 0, 0, [])),
  (26, (55, 0, 0, 53, 263, 233, [])),
  (29, (9, 0, 0, 0, 0, 0, [])),
  (30, (55, 0, 0, 19, 257, 227, [])),
  (33, (7, 0, 0, 1, 0, 0, [])),
  (34, (62, 0, 0, 192, 0, 0, [])),
  (37, (7, 0, 0, 2, 0, 0, [])),
  (38, (42, 0, 0, 51, 0, 0, [])),
  (41, (9, 0, 0, 0, 0, 0, [])),
  (42, (55, 0, 0, 53, 263, 233, [])),
  (45, (55, 0, 0, 196, 32, 194, [])),
  (48, (40, 0, 0, 58, 0, 0, [])),
  (51, (9, 0, 0, 0, 0, 0, [])),
  (52, (55, 0, 0, 53, 263, 233, [])),
  (55, (55, 0, 0, 199, 33, 196, [])),
  (58, (64, 0, 0, 0, 0, 0, []))]
def e_X9_over : Ev := (t_X9_over, [(64, (3, 1, 0, 0, s_X9_within)), (118, (2, 1, 0, 8, s_X8_comes)), (192, (3, 0, 0, 2, s_X1_send))], 1, 0, false, 0, fun _ => 0)
def s_X9_over : Sp := spc e_X9_over 3
theorem m_X9_over : monoE e_X9_over := monoE_of (cons_all (p_X9_within) (cons_all (p_X8_comes) (cons_all (p_X1_send) nil_all)))
theorem p_X9_over : mono s_X9_over := spc_mono m_X9_over _
theorem k_X9_over (l : Launch) : Con l y_X9_over prog_1_method_21_code 3 (Option.some Jvm.ClassFile.FieldType.int) { frames := 3, cells := 0, slots := 0, locals := 70 } 1 0 s_X9_over := con_of l e_X9_over y_X9_over prog_1_method_21_code 3 (Option.some Jvm.ClassFile.FieldType.int) _ (by decide +kernel) (cons_all (clS (k_X9_within l) f_X9_within ⟨rfl, rfl, Nat.le_of_ble_eq_true rfl, Nat.le_of_ble_eq_true rfl⟩ (mg 258 (by decide +kernel))) (cons_all (clV (k_X8_comes l) f_X8_comes ⟨rfl, rfl, Nat.le_of_ble_eq_true rfl, Nat.le_of_ble_eq_true rfl⟩ (mg 348 (by decide +kernel))) (cons_all (clV (k_X1_send l) f_X1_send ⟨rfl, rfl, Nat.le_of_ble_eq_true rfl, Nat.le_of_ble_eq_true rfl⟩ (mg 543 (by decide +kernel))) nil_all))) (Or.inl (by decide +kernel))
theorem f_X9_over : calV y_X9_over prog_1_method_21_code 3 (Option.some Jvm.ClassFile.FieldType.int) 3 8 := ⟨⟨mem_g (i := 542) (by decide +kernel) rfl, mg 25 (by decide +kernel)⟩, by decide +kernel, by decide +kernel, by decide, mg 540 (by decide +kernel), mg 541 (by decide +kernel), _, rfl, rfl⟩
def y_X9_both : MethodName := ⟨"ActsPaid", "both", "(I)I"⟩
def t_X9_both : List (Nat × Ao) := [
  (0, (7, 0, 0, 1, 0, 0, [])),
  (1, (0, 0, 0, 0, 0, 0, [])),
  (2, (0, 1, 0, 0, 0, 0, [])),
  (3, (63, 0, 0, 64, 0, 0, [])),
  (6, (42, 0, 0, 12, 0, 0, [])),
  (9, (1, (-2), 0, 0, 0, 0, [])),
  (11, (64, 0, 0, 0, 0, 0, [])),
  (12, (9, 0, 0, 0, 0, 0, [])),
  (13, (55, 0, 0, 53, 263, 233, [])),
  (16, (9, 0, 0, 0, 0, 0, [])),
  (17, (55, 0, 0, 19, 257, 227, [])),
  (20, (62, 0, 0, 202, 0, 0, [])),
  (23, (7, 0, 0, 1, 0, 0, [])),
  (24, (42, 0, 0, 37, 0, 0, [])),
  (27, (9, 0, 0, 0, 0, 0, [])),
  (28, (55, 0, 0, 53, 263, 233, [])),
  (31, (55, 0, 0, 206, 34, 198, [])),
  (34, (40, 0, 0, 44, 0, 0, [])),
  (37, (9, 0, 0, 0, 0, 0, [])),
  (38, (55, 0, 0, 53, 263, 233, [])),
  (41, (55, 0, 0, 209, 35, 200, [])),
  (44, (64, 0, 0, 0, 0, 0, []))]
def e_X9_both : Ev := (t_X9_both, [(64, (3, 1, 0, 0, s_X9_within)), (202, (2, 0, 0, 2, s_X1_sendAll))], 1, 0, false, 0, fun _ => 0)
def s_X9_both : Sp := spc e_X9_both 2
theorem m_X9_both : monoE e_X9_both := monoE_of (cons_all (p_X9_within) (cons_all (p_X1_sendAll) nil_all))
theorem p_X9_both : mono s_X9_both := spc_mono m_X9_both _
theorem k_X9_both (l : Launch) : Con l y_X9_both prog_1_method_22_code 2 (Option.some Jvm.ClassFile.FieldType.int) { frames := 4, cells := 0, slots := 0, locals := 92 } 1 0 s_X9_both := con_of l e_X9_both y_X9_both prog_1_method_22_code 2 (Option.some Jvm.ClassFile.FieldType.int) _ (by decide +kernel) (cons_all (clS (k_X9_within l) f_X9_within ⟨rfl, rfl, Nat.le_of_ble_eq_true rfl, Nat.le_of_ble_eq_true rfl⟩ (mg 258 (by decide +kernel))) (cons_all (clV (k_X1_sendAll l) f_X1_sendAll ⟨rfl, rfl, Nat.le_of_ble_eq_true rfl, Nat.le_of_ble_eq_true rfl⟩ (mg 553 (by decide +kernel))) nil_all)) (Or.inl (by decide +kernel))
theorem f_X9_both : calV y_X9_both prog_1_method_22_code 2 (Option.some Jvm.ClassFile.FieldType.int) 2 8 := ⟨⟨mem_g (i := 552) (by decide +kernel) rfl, mg 25 (by decide +kernel)⟩, by decide +kernel, by decide +kernel, by decide, mg 550 (by decide +kernel), mg 551 (by decide +kernel), _, rfl, rfl⟩
def y_X9_rests : MethodName := ⟨"ActsPaid", "rests", "(I)I"⟩
def t_X9_rests : List (Nat × Ao) := [
  (0, (9, 0, 0, 0, 0, 0, [])),
  (1, (55, 0, 0, 53, 263, 233, [])),
  (4, (9, 0, 0, 0, 0, 0, [])),
  (5, (62, 0, 0, 157, 0, 0, [])),
  (8, (7, 0, 0, 1, 0, 0, [])),
  (9, (62, 0, 0, 212, 0, 0, [])),
  (12, (64, 0, 0, 0, 0, 0, []))]
def e_X9_rests : Ev := (t_X9_rests, [(157, (1, 3, 7, 9, s_X9_tried)), (212, (3, 1, 0, 2, s_X1_restingBases))], 1, 0, false, 0, fun _ => 0)
def s_X9_rests : Sp := spc e_X9_rests 2
theorem m_X9_rests : monoE e_X9_rests := monoE_of (cons_all (p_X9_tried) (cons_all (p_X1_restingBases) nil_all))
theorem p_X9_rests : mono s_X9_rests := spc_mono m_X9_rests _
theorem k_X9_rests (l : Launch) : Con l y_X9_rests prog_1_method_23_code 2 (Option.some Jvm.ClassFile.FieldType.int) { frames := 5, cells := 0, slots := 0, locals := 116 } 1 0 s_X9_rests := con_of l e_X9_rests y_X9_rests prog_1_method_23_code 2 (Option.some Jvm.ClassFile.FieldType.int) _ (by decide +kernel) (cons_all (clV (k_X9_tried l) f_X9_tried ⟨rfl, rfl, Nat.le_of_ble_eq_true rfl, Nat.le_of_ble_eq_true rfl⟩ (mg 415 (by decide +kernel))) (cons_all (clV (k_X1_restingBases l) f_X1_restingBases ⟨rfl, rfl, Nat.le_of_ble_eq_true rfl, Nat.le_of_ble_eq_true rfl⟩ (mg 564 (by decide +kernel))) nil_all)) (Or.inl (by decide +kernel))
theorem f_X9_rests : calV y_X9_rests prog_1_method_23_code 2 (Option.some Jvm.ClassFile.FieldType.int) 2 8 := ⟨⟨mem_g (i := 563) (by decide +kernel) rfl, mg 25 (by decide +kernel)⟩, by decide +kernel, by decide +kernel, by decide, mg 561 (by decide +kernel), mg 562 (by decide +kernel), _, rfl, rfl⟩
def y_X9_seen : MethodName := ⟨"ActsPaid", "seen", "(III)I"⟩
def t_X9_seen : List (Nat × Ao) := [
  (0, (9, 0, 0, 0, 0, 0, [])),
  (1, (55, 0, 0, 19, 257, 227, [])),
  (4, (7, 0, 0, 1, 0, 0, [])),
  (5, (62, 0, 0, 118, 0, 0, [])),
  (8, (42, 0, 0, 13, 0, 0, [])),
  (11, (0, (-1), 0, 0, 0, 0, [])),
  (12, (64, 0, 0, 0, 0, 0, [])),
  (13, (7, 0, 0, 2, 0, 0, [])),
  (14, (0, 0, 0, 0, 0, 0, [])),
  (15, (9, 0, 0, 0, 0, 0, [])),
  (16, (55, 0, 0, 19, 257, 227, [])),
  (19, (55, 0, 0, 68, 224, 89, [])),
  (22, (63, 0, 0, 64, 0, 0, [])),
  (25, (41, 0, 0, 38, 0, 0, [])),
  (28, (7, 0, 0, 3, 0, 0, [])),
  (29, (0, 0, 0, 0, 0, 0, [])),
  (30, (1, 30, 0, 0, 0, 0, [])),
  (32, (63, 0, 0, 64, 0, 0, [])),
  (35, (42, 0, 0, 41, 0, 0, [])),
  (38, (1, (-2), 0, 0, 0, 0, [])),
  (40, (64, 0, 0, 0, 0, 0, [])),
  (41, (9, 0, 0, 0, 0, 0, [])),
  (42, (55, 0, 0, 19, 257, 227, [])),
  (45, (55, 0, 0, 215, 235, 122, [])),
  (48, (7, 0, 0, 1, 0, 0, [])),
  (49, (7, 0, 0, 2, 0, 0, [])),
  (50, (7, 0, 0, 3, 0, 0, [])),
  (51, (62, 0, 0, 219, 0, 0, [])),
  (54, (41, 0, 0, 70, 0, 0, [])),
  (57, (9, 0, 0, 0, 0, 0, [])),
  (58, (55, 0, 0, 19, 257, 227, [])),
  (61, (55, 0, 0, 215, 235, 122, [])),
  (64, (55, 0, 0, 223, 192, 75, [])),
  (67, (40, 0, 0, 72, 0, 0, [])),
  (70, (1, (-4), 0, 0, 0, 0, [])),
  (72, (64, 0, 0, 0, 0, 0, []))]
def e_X9_seen : Ev := (t_X9_seen, [(64, (3, 1, 0, 0, s_X9_within)), (118, (2, 1, 0, 8, s_X8_comes)), (219, (4, 1, 0, 7, s_X7_add))], 1, 0, false, 0, fun _ => 0)
def s_X9_seen : Sp := spc e_X9_seen 4
theorem m_X9_seen : monoE e_X9_seen := monoE_of (cons_all (p_X9_within) (cons_all (p_X8_comes) (cons_all (p_X7_add) nil_all)))
theorem p_X9_seen : mono s_X9_seen := spc_mono m_X9_seen _
theorem k_X9_seen (l : Launch) : Con l y_X9_seen prog_1_method_24_code 4 (Option.some Jvm.ClassFile.FieldType.int) { frames := 2, cells := 0, slots := 0, locals := 45 } 1 0 s_X9_seen := con_of l e_X9_seen y_X9_seen prog_1_method_24_code 4 (Option.some Jvm.ClassFile.FieldType.int) _ (by decide +kernel) (cons_all (clS (k_X9_within l) f_X9_within ⟨rfl, rfl, Nat.le_of_ble_eq_true rfl, Nat.le_of_ble_eq_true rfl⟩ (mg 258 (by decide +kernel))) (cons_all (clV (k_X8_comes l) f_X8_comes ⟨rfl, rfl, Nat.le_of_ble_eq_true rfl, Nat.le_of_ble_eq_true rfl⟩ (mg 348 (by decide +kernel))) (cons_all (clV (k_X7_add l) f_X7_add ⟨rfl, rfl, Nat.le_of_ble_eq_true rfl, Nat.le_of_ble_eq_true rfl⟩ (mg 578 (by decide +kernel))) nil_all))) (Or.inl (by decide +kernel))
theorem f_X9_seen : calV y_X9_seen prog_1_method_24_code 4 (Option.some Jvm.ClassFile.FieldType.int) 4 8 := ⟨⟨mem_g (i := 577) (by decide +kernel) rfl, mg 25 (by decide +kernel)⟩, by decide +kernel, by decide +kernel, by decide, mg 575 (by decide +kernel), mg 576 (by decide +kernel), _, rfl, rfl⟩
def y_X9_forget : MethodName := ⟨"ActsPaid", "forget", "()I"⟩
def t_X9_forget : List (Nat × Ao) := [
  (0, (9, 0, 0, 0, 0, 0, [])),
  (1, (55, 0, 0, 19, 257, 227, [])),
  (4, (55, 0, 0, 215, 235, 122, [])),
  (7, (55, 0, 0, 223, 192, 75, [])),
  (10, (13, 0, 0, 1, 0, 0, [])),
  (11, (9, 0, 0, 0, 0, 0, [])),
  (12, (55, 0, 0, 19, 257, 227, [])),
  (15, (55, 0, 0, 215, 235, 122, [])),
  (18, (0, 0, 0, 0, 0, 0, [])),
  (19, (56, 0, 0, 223, 192, 75, [])),
  (22, (7, 0, 0, 1, 0, 0, [])),
  (23, (64, 0, 0, 0, 0, 0, []))]
def e_X9_forget : Ev := (t_X9_forget, [], 1, 0, false, 0, fun _ => 0)
def s_X9_forget : Sp := spc e_X9_forget 2
theorem m_X9_forget : monoE e_X9_forget := monoE_of nil_all
theorem p_X9_forget : mono s_X9_forget := spc_mono m_X9_forget _
theorem k_X9_forget (l : Launch) : Con l y_X9_forget prog_1_method_25_code 2 (Option.some Jvm.ClassFile.FieldType.int) { frames := 0, cells := 0, slots := 0, locals := 0 } 1 0 s_X9_forget := con_of l e_X9_forget y_X9_forget prog_1_method_25_code 2 (Option.some Jvm.ClassFile.FieldType.int) _ (by decide +kernel) nil_all (Or.inl (by decide +kernel))
theorem f_X9_forget : calV y_X9_forget prog_1_method_25_code 2 (Option.some Jvm.ClassFile.FieldType.int) 1 8 := ⟨⟨mem_g (i := 586) (by decide +kernel) rfl, mg 25 (by decide +kernel)⟩, by decide +kernel, by decide +kernel, by decide, mg 584 (by decide +kernel), mg 585 (by decide +kernel), _, rfl, rfl⟩
def y_X9_fits : MethodName := ⟨"ActsPaid", "fits", "(III)I"⟩
def t_X9_fits : List (Nat × Ao) := [
  (0, (9, 0, 0, 0, 0, 0, [])),
  (1, (55, 0, 0, 19, 257, 227, [])),
  (4, (7, 0, 0, 1, 0, 0, [])),
  (5, (62, 0, 0, 118, 0, 0, [])),
  (8, (41, 0, 0, 22, 0, 0, [])),
  (11, (9, 0, 0, 0, 0, 0, [])),
  (12, (55, 0, 0, 19, 257, 227, [])),
  (15, (7, 0, 0, 2, 0, 0, [])),
  (16, (62, 0, 0, 121, 0, 0, [])),
  (19, (42, 0, 0, 24, 0, 0, [])),
  (22, (0, (-1), 0, 0, 0, 0, [])),
  (23, (64, 0, 0, 0, 0, 0, [])),
  (24, (7, 0, 0, 3, 0, 0, [])),
  (25, (0, 0, 0, 0, 0, 0, [])),
  (26, (0, 2, 0, 0, 0, 0, [])),
  (27, (63, 0, 0, 64, 0, 0, [])),
  (30, (42, 0, 0, 36, 0, 0, [])),
  (33, (1, (-2), 0, 0, 0, 0, [])),
  (35, (64, 0, 0, 0, 0, 0, [])),
  (36, (9, 0, 0, 0, 0, 0, [])),
  (37, (62, 0, 0, 157, 0, 0, [])),
  (40, (7, 0, 0, 1, 0, 0, [])),
  (41, (7, 0, 0, 2, 0, 0, [])),
  (42, (7, 0, 0, 3, 0, 0, [])),
  (43, (63, 0, 0, 224, 0, 0, [])),
  (46, (64, 0, 0, 0, 0, 0, []))]
def e_X9_fits : Ev := (t_X9_fits, [(64, (3, 1, 0, 0, s_X9_within)), (118, (2, 1, 0, 8, s_X8_comes)), (121, (2, 1, 0, 8, s_X8_hasAct)), (157, (1, 3, 7, 9, s_X9_tried)), (224, (4, 1, 0, 0, s_X7_worthsThatFit))], 1, 0, false, 0, fun _ => 0)
def s_X9_fits : Sp := spc e_X9_fits 4
theorem m_X9_fits : monoE e_X9_fits := monoE_of (cons_all (p_X9_within) (cons_all (p_X8_comes) (cons_all (p_X8_hasAct) (cons_all (p_X9_tried) (cons_all (p_X7_worthsThatFit) nil_all)))))
theorem p_X9_fits : mono s_X9_fits := spc_mono m_X9_fits _
theorem k_X9_fits (l : Launch) : Con l y_X9_fits prog_1_method_26_code 4 (Option.some Jvm.ClassFile.FieldType.int) { frames := 5, cells := 0, slots := 0, locals := 119 } 1 0 s_X9_fits := con_of l e_X9_fits y_X9_fits prog_1_method_26_code 4 (Option.some Jvm.ClassFile.FieldType.int) _ (by decide +kernel) (cons_all (clS (k_X9_within l) f_X9_within ⟨rfl, rfl, Nat.le_of_ble_eq_true rfl, Nat.le_of_ble_eq_true rfl⟩ (mg 258 (by decide +kernel))) (cons_all (clV (k_X8_comes l) f_X8_comes ⟨rfl, rfl, Nat.le_of_ble_eq_true rfl, Nat.le_of_ble_eq_true rfl⟩ (mg 348 (by decide +kernel))) (cons_all (clV (k_X8_hasAct l) f_X8_hasAct ⟨rfl, rfl, Nat.le_of_ble_eq_true rfl, Nat.le_of_ble_eq_true rfl⟩ (mg 357 (by decide +kernel))) (cons_all (clV (k_X9_tried l) f_X9_tried ⟨rfl, rfl, Nat.le_of_ble_eq_true rfl, Nat.le_of_ble_eq_true rfl⟩ (mg 415 (by decide +kernel))) (cons_all (clS (k_X7_worthsThatFit l) f_X7_worthsThatFit ⟨rfl, rfl, Nat.le_of_ble_eq_true rfl, Nat.le_of_ble_eq_true rfl⟩ (mg 591 (by decide +kernel))) nil_all))))) (Or.inl (by decide +kernel))
theorem f_X9_fits : calV y_X9_fits prog_1_method_26_code 4 (Option.some Jvm.ClassFile.FieldType.int) 4 8 := ⟨⟨mem_g (i := 590) (by decide +kernel) rfl, mg 25 (by decide +kernel)⟩, by decide +kernel, by decide +kernel, by decide, mg 588 (by decide +kernel), mg 589 (by decide +kernel), _, rfl, rfl⟩
def y_X9_odds : MethodName := ⟨"ActsPaid", "odds", "(III)J"⟩
def t_X9_odds : List (Nat × Ao) := [
  (0, (7, 0, 0, 1, 0, 0, [])),
  (1, (0, 0, 0, 0, 0, 0, [])),
  (2, (2, 9999, 0, 0, 0, 0, [])),
  (5, (63, 0, 0, 64, 0, 0, [])),
  (8, (41, 0, 0, 30, 0, 0, [])),
  (11, (7, 0, 0, 2, 0, 0, [])),
  (12, (0, 0, 0, 0, 0, 0, [])),
  (13, (1, 10, 0, 0, 0, 0, [])),
  (15, (63, 0, 0, 64, 0, 0, [])),
  (18, (41, 0, 0, 30, 0, 0, [])),
  (21, (7, 0, 0, 3, 0, 0, [])),
  (22, (0, 0, 0, 0, 0, 0, [])),
  (23, (0, 1, 0, 0, 0, 0, [])),
  (24, (63, 0, 0, 64, 0, 0, [])),
  (27, (42, 0, 0, 34, 0, 0, [])),
  (30, (6, 0, (-1000000000000000002), 228, 0, 605, [])),
  (33, (65, 0, 0, 0, 0, 0, [])),
  (34, (9, 0, 0, 0, 0, 0, [])),
  (35, (55, 0, 0, 60, 264, 234, [])),
  (38, (9, 0, 0, 0, 0, 0, [])),
  (39, (55, 0, 0, 19, 257, 227, [])),
  (42, (7, 0, 0, 1, 0, 0, [])),
  (43, (7, 0, 0, 2, 0, 0, [])),
  (44, (7, 0, 0, 3, 0, 0, [])),
  (45, (62, 0, 0, 230, 0, 0, [])),
  (48, (65, 0, 0, 0, 0, 0, []))]
def e_X9_odds : Ev := (t_X9_odds, [(64, (3, 1, 0, 0, s_X9_within)), (230, (5, 2, 0, 1, s_X0_comesIn))], 2, 0, false, 0, fun _ => 0)
def s_X9_odds : Sp := spc e_X9_odds 4
theorem m_X9_odds : monoE e_X9_odds := monoE_of (cons_all (p_X9_within) (cons_all (p_X0_comesIn) nil_all))
theorem p_X9_odds : mono s_X9_odds := spc_mono m_X9_odds _
theorem k_X9_odds (l : Launch) : Con l y_X9_odds prog_1_method_27_code 4 (Option.some Jvm.ClassFile.FieldType.long) { frames := 6, cells := 0, slots := 0, locals := 144 } 2 0 s_X9_odds := con_of l e_X9_odds y_X9_odds prog_1_method_27_code 4 (Option.some Jvm.ClassFile.FieldType.long) _ (by decide +kernel) (cons_all (clS (k_X9_within l) f_X9_within ⟨rfl, rfl, Nat.le_of_ble_eq_true rfl, Nat.le_of_ble_eq_true rfl⟩ (mg 258 (by decide +kernel))) (cons_all (clV (k_X0_comesIn l) f_X0_comesIn ⟨rfl, rfl, Nat.le_of_ble_eq_true rfl, Nat.le_of_ble_eq_true rfl⟩ (mg 606 (by decide +kernel))) nil_all)) (Or.inl (by decide +kernel))
theorem f_X9_odds : calV y_X9_odds prog_1_method_27_code 4 (Option.some Jvm.ClassFile.FieldType.long) 4 8 := ⟨⟨mem_g (i := 604) (by decide +kernel) rfl, mg 25 (by decide +kernel)⟩, by decide +kernel, by decide +kernel, by decide, mg 602 (by decide +kernel), mg 603 (by decide +kernel), _, rfl, rfl⟩
def y_X9_year : MethodName := ⟨"ActsPaid", "year", "(III)I"⟩
def t_X9_year : List (Nat × Ao) := [
  (0, (7, 0, 0, 1, 0, 0, [])),
  (1, (0, 0, 0, 0, 0, 0, [])),
  (2, (2, 9999, 0, 0, 0, 0, [])),
  (5, (63, 0, 0, 64, 0, 0, [])),
  (8, (41, 0, 0, 30, 0, 0, [])),
  (11, (7, 0, 0, 2, 0, 0, [])),
  (12, (0, 1, 0, 0, 0, 0, [])),
  (13, (1, 99, 0, 0, 0, 0, [])),
  (15, (63, 0, 0, 64, 0, 0, [])),
  (18, (41, 0, 0, 30, 0, 0, [])),
  (21, (7, 0, 0, 3, 0, 0, [])),
  (22, (0, 0, 0, 0, 0, 0, [])),
  (23, (0, 1, 0, 0, 0, 0, [])),
  (24, (63, 0, 0, 64, 0, 0, [])),
  (27, (42, 0, 0, 33, 0, 0, [])),
  (30, (1, (-2), 0, 0, 0, 0, [])),
  (32, (64, 0, 0, 0, 0, 0, [])),
  (33, (9, 0, 0, 0, 0, 0, [])),
  (34, (55, 0, 0, 60, 264, 234, [])),
  (37, (9, 0, 0, 0, 0, 0, [])),
  (38, (55, 0, 0, 19, 257, 227, [])),
  (41, (7, 0, 0, 1, 0, 0, [])),
  (42, (7, 0, 0, 2, 0, 0, [])),
  (43, (7, 0, 0, 3, 0, 0, [])),
  (44, (62, 0, 0, 234, 0, 0, [])),
  (47, (64, 0, 0, 0, 0, 0, []))]
def e_X9_year : Ev := (t_X9_year, [(64, (3, 1, 0, 0, s_X9_within)), (234, (5, 1, 0, 1, s_X0_evenings))], 1, 0, false, 0, fun _ => 0)
def s_X9_year : Sp := spc e_X9_year 4
theorem m_X9_year : monoE e_X9_year := monoE_of (cons_all (p_X9_within) (cons_all (p_X0_evenings) nil_all))
theorem p_X9_year : mono s_X9_year := spc_mono m_X9_year _
theorem k_X9_year (l : Launch) : Con l y_X9_year prog_1_method_28_code 4 (Option.some Jvm.ClassFile.FieldType.int) { frames := 6, cells := 0, slots := 0, locals := 141 } 1 0 s_X9_year := con_of l e_X9_year y_X9_year prog_1_method_28_code 4 (Option.some Jvm.ClassFile.FieldType.int) _ (by decide +kernel) (cons_all (clS (k_X9_within l) f_X9_within ⟨rfl, rfl, Nat.le_of_ble_eq_true rfl, Nat.le_of_ble_eq_true rfl⟩ (mg 258 (by decide +kernel))) (cons_all (clV (k_X0_evenings l) f_X0_evenings ⟨rfl, rfl, Nat.le_of_ble_eq_true rfl, Nat.le_of_ble_eq_true rfl⟩ (mg 634 (by decide +kernel))) nil_all)) (Or.inl (by decide +kernel))
theorem f_X9_year : calV y_X9_year prog_1_method_28_code 4 (Option.some Jvm.ClassFile.FieldType.int) 4 8 := ⟨⟨mem_g (i := 633) (by decide +kernel) rfl, mg 25 (by decide +kernel)⟩, by decide +kernel, by decide +kernel, by decide, mg 631 (by decide +kernel), mg 632 (by decide +kernel), _, rfl, rfl⟩
def y_X9_imageOf : MethodName := ⟨"ActsPaid", "imageOf", "(I)LActsPaid$Image;"⟩
def t_X9_imageOf : List (Nat × Ao) := [
  (0, (7, 0, 0, 1, 0, 0, [])),
  (1, (42, 0, 0, 11, 0, 0, [])),
  (4, (9, 0, 0, 0, 0, 0, [])),
  (5, (55, 0, 0, 29, 259, 229, [])),
  (8, (40, 0, 0, 15, 0, 0, [])),
  (11, (9, 0, 0, 0, 0, 0, [])),
  (12, (55, 0, 0, 33, 260, 230, [])),
  (15, (67, 0, 0, 0, 0, 0, []))]
def e_X9_imageOf : Ev := (t_X9_imageOf, [], 3, 2, false, 0, fun _ => 0)
def s_X9_imageOf : Sp := spc e_X9_imageOf 2
theorem m_X9_imageOf : monoE e_X9_imageOf := monoE_of nil_all
theorem p_X9_imageOf : mono s_X9_imageOf := spc_mono m_X9_imageOf _
theorem k_X9_imageOf (l : Launch) : Con l y_X9_imageOf prog_1_method_32_code 2 (Option.some (Jvm.ClassFile.FieldType.object "ActsPaid$Image")) { frames := 0, cells := 0, slots := 0, locals := 0 } 3 2 s_X9_imageOf := con_of l e_X9_imageOf y_X9_imageOf prog_1_method_32_code 2 (Option.some (Jvm.ClassFile.FieldType.object "ActsPaid$Image")) _ (by decide +kernel) nil_all (Or.inl (by decide +kernel))
theorem f_X9_imageOf : calV y_X9_imageOf prog_1_method_32_code 2 (Option.some (Jvm.ClassFile.FieldType.object "ActsPaid$Image")) 2 8 := ⟨⟨mem_g (i := 649) (by decide +kernel) rfl, mg 25 (by decide +kernel)⟩, by decide +kernel, by decide +kernel, by decide, mg 648 (by decide +kernel), mg 1 (by decide +kernel), _, rfl, rfl⟩
def y_X9_image : MethodName := ⟨"ActsPaid", "image", "(I)I"⟩
def t_X9_image : List (Nat × Ao) := [
  (0, (7, 0, 0, 1, 0, 0, [])),
  (1, (0, 0, 0, 0, 0, 0, [])),
  (2, (0, 1, 0, 0, 0, 0, [])),
  (3, (63, 0, 0, 64, 0, 0, [])),
  (6, (42, 0, 0, 12, 0, 0, [])),
  (9, (1, (-2), 0, 0, 0, 0, [])),
  (11, (64, 0, 0, 0, 0, 0, [])),
  (12, (9, 0, 0, 0, 0, 0, [])),
  (13, (7, 0, 0, 1, 0, 0, [])),
  (14, (62, 0, 0, 237, 0, 0, [])),
  (17, (15, 0, 0, 2, 0, 0, [])),
  (18, (9, 0, 0, 2, 0, 0, [])),
  (19, (55, 0, 0, 241, 64, 157, [])),
  (22, (9, 0, 0, 0, 0, 0, [])),
  (23, (55, 0, 0, 19, 257, 227, [])),
  (26, (62, 0, 0, 244, 0, 0, [])),
  (29, (9, 0, 0, 2, 0, 0, [])),
  (30, (0, 1, 0, 0, 0, 0, [])),
  (31, (56, 0, 0, 247, 65, 158, [])),
  (34, (0, 1, 0, 0, 0, 0, [])),
  (35, (64, 0, 0, 0, 0, 0, []))]
def e_X9_image : Ev := (t_X9_image, [(64, (3, 1, 0, 0, s_X9_within)), (237, (2, 3, 2, 9, s_X9_imageOf)), (244, (2, 0, 0, 8, s_X8_copyFrom))], 1, 0, false, 0, fun _ => 0)
def s_X9_image : Sp := spc e_X9_image 3
theorem m_X9_image : monoE e_X9_image := monoE_of (cons_all (p_X9_within) (cons_all (p_X9_imageOf) (cons_all (p_X8_copyFrom) nil_all)))
theorem p_X9_image : mono s_X9_image := spc_mono m_X9_image _
theorem k_X9_image (l : Launch) : Con l y_X9_image prog_1_method_29_code 3 (Option.some Jvm.ClassFile.FieldType.int) { frames := 3, cells := 0, slots := 0, locals := 64 } 1 0 s_X9_image := con_of l e_X9_image y_X9_image prog_1_method_29_code 3 (Option.some Jvm.ClassFile.FieldType.int) _ (by decide +kernel) (cons_all (clS (k_X9_within l) f_X9_within ⟨rfl, rfl, Nat.le_of_ble_eq_true rfl, Nat.le_of_ble_eq_true rfl⟩ (mg 258 (by decide +kernel))) (cons_all (clV (k_X9_imageOf l) f_X9_imageOf ⟨rfl, rfl, Nat.le_of_ble_eq_true rfl, Nat.le_of_ble_eq_true rfl⟩ (mg 646 (by decide +kernel))) (cons_all (clV (k_X8_copyFrom l) f_X8_copyFrom ⟨rfl, rfl, Nat.le_of_ble_eq_true rfl, Nat.le_of_ble_eq_true rfl⟩ (mg 419 (by decide +kernel))) nil_all))) (Or.inl (by decide +kernel))
theorem f_X9_image : calV y_X9_image prog_1_method_29_code 3 (Option.some Jvm.ClassFile.FieldType.int) 2 8 := ⟨⟨mem_g (i := 645) (by decide +kernel) rfl, mg 25 (by decide +kernel)⟩, by decide +kernel, by decide +kernel, by decide, mg 643 (by decide +kernel), mg 644 (by decide +kernel), _, rfl, rfl⟩
def y_X9_restore : MethodName := ⟨"ActsPaid", "restore", "(I)I"⟩
def t_X9_restore : List (Nat × Ao) := [
  (0, (7, 0, 0, 1, 0, 0, [])),
  (1, (0, 0, 0, 0, 0, 0, [])),
  (2, (0, 1, 0, 0, 0, 0, [])),
  (3, (63, 0, 0, 64, 0, 0, [])),
  (6, (42, 0, 0, 12, 0, 0, [])),
  (9, (1, (-2), 0, 0, 0, 0, [])),
  (11, (64, 0, 0, 0, 0, 0, [])),
  (12, (9, 0, 0, 0, 0, 0, [])),
  (13, (7, 0, 0, 1, 0, 0, [])),
  (14, (62, 0, 0, 237, 0, 0, [])),
  (17, (15, 0, 0, 2, 0, 0, [])),
  (18, (9, 0, 0, 2, 0, 0, [])),
  (19, (55, 0, 0, 247, 65, 158, [])),
  (22, (42, 0, 0, 28, 0, 0, [])),
  (25, (1, (-3), 0, 0, 0, 0, [])),
  (27, (64, 0, 0, 0, 0, 0, [])),
  (28, (9, 0, 0, 0, 0, 0, [])),
  (29, (55, 0, 0, 19, 257, 227, [])),
  (32, (9, 0, 0, 2, 0, 0, [])),
  (33, (55, 0, 0, 241, 64, 157, [])),
  (36, (62, 0, 0, 244, 0, 0, [])),
  (39, (0, 1, 0, 0, 0, 0, [])),
  (40, (64, 0, 0, 0, 0, 0, []))]
def e_X9_restore : Ev := (t_X9_restore, [(64, (3, 1, 0, 0, s_X9_within)), (237, (2, 3, 2, 9, s_X9_imageOf)), (244, (2, 0, 0, 8, s_X8_copyFrom))], 1, 0, false, 0, fun _ => 0)
def s_X9_restore : Sp := spc e_X9_restore 3
theorem m_X9_restore : monoE e_X9_restore := monoE_of (cons_all (p_X9_within) (cons_all (p_X9_imageOf) (cons_all (p_X8_copyFrom) nil_all)))
theorem p_X9_restore : mono s_X9_restore := spc_mono m_X9_restore _
theorem k_X9_restore (l : Launch) : Con l y_X9_restore prog_1_method_30_code 3 (Option.some Jvm.ClassFile.FieldType.int) { frames := 3, cells := 0, slots := 0, locals := 64 } 1 0 s_X9_restore := con_of l e_X9_restore y_X9_restore prog_1_method_30_code 3 (Option.some Jvm.ClassFile.FieldType.int) _ (by decide +kernel) (cons_all (clS (k_X9_within l) f_X9_within ⟨rfl, rfl, Nat.le_of_ble_eq_true rfl, Nat.le_of_ble_eq_true rfl⟩ (mg 258 (by decide +kernel))) (cons_all (clV (k_X9_imageOf l) f_X9_imageOf ⟨rfl, rfl, Nat.le_of_ble_eq_true rfl, Nat.le_of_ble_eq_true rfl⟩ (mg 646 (by decide +kernel))) (cons_all (clV (k_X8_copyFrom l) f_X8_copyFrom ⟨rfl, rfl, Nat.le_of_ble_eq_true rfl, Nat.le_of_ble_eq_true rfl⟩ (mg 419 (by decide +kernel))) nil_all))) (Or.inl (by decide +kernel))
theorem f_X9_restore : calV y_X9_restore prog_1_method_30_code 3 (Option.some Jvm.ClassFile.FieldType.int) 2 8 := ⟨⟨mem_g (i := 653) (by decide +kernel) rfl, mg 25 (by decide +kernel)⟩, by decide +kernel, by decide +kernel, by decide, mg 651 (by decide +kernel), mg 652 (by decide +kernel), _, rfl, rfl⟩
def y_X9_told : MethodName := ⟨"ActsPaid", "told", "(I)I"⟩
def t_X9_told : List (Nat × Ao) := [
  (0, (7, 0, 0, 1, 0, 0, [])),
  (1, (1, 10, 0, 0, 0, 0, [])),
  (3, (1, 9, 0, 0, 0, 0, [])),
  (5, (9, 0, 0, 0, 0, 0, [])),
  (6, (55, 0, 0, 19, 257, 227, [])),
  (9, (55, 0, 0, 68, 224, 89, [])),
  (12, (19, 0, 0, 0, 0, 0, [])),
  (13, (63, 0, 0, 64, 0, 0, [])),
  (16, (41, 0, 0, 34, 0, 0, [])),
  (19, (9, 0, 0, 0, 0, 0, [])),
  (20, (55, 0, 0, 19, 257, 227, [])),
  (23, (55, 0, 0, 128, 230, 112, [])),
  (26, (7, 0, 0, 1, 0, 0, [])),
  (27, (1, 10, 0, 0, 0, 0, [])),
  (29, (20, 0, 0, 0, 0, 0, [])),
  (30, (63, 0, 0, 188, 0, 0, [])),
  (33, (64, 0, 0, 0, 0, 0, [])),
  (34, (7, 0, 0, 1, 0, 0, [])),
  (35, (1, 20, 0, 0, 0, 0, [])),
  (37, (1, 19, 0, 0, 0, 0, [])),
  (39, (9, 0, 0, 0, 0, 0, [])),
  (40, (55, 0, 0, 19, 257, 227, [])),
  (43, (55, 0, 0, 68, 224, 89, [])),
  (46, (19, 0, 0, 0, 0, 0, [])),
  (47, (63, 0, 0, 64, 0, 0, [])),
  (50, (41, 0, 0, 68, 0, 0, [])),
  (53, (9, 0, 0, 0, 0, 0, [])),
  (54, (55, 0, 0, 19, 257, 227, [])),
  (57, (55, 0, 0, 185, 232, 116, [])),
  (60, (7, 0, 0, 1, 0, 0, [])),
  (61, (1, 20, 0, 0, 0, 0, [])),
  (63, (20, 0, 0, 0, 0, 0, [])),
  (64, (63, 0, 0, 188, 0, 0, [])),
  (67, (64, 0, 0, 0, 0, 0, [])),
  (68, (7, 0, 0, 1, 0, 0, [])),
  (69, (68, 0, 0, 183, 0, 0, [(0, 116), (1, 124), (2, 132), (3, 140), (4, 148), (5, 156), (6, 164), (7, 172)])),
  (116, (9, 0, 0, 0, 0, 0, [])),
  (117, (55, 0, 0, 10, 256, 226, [])),
  (120, (55, 0, 0, 91, 97, 54, [])),
  (123, (64, 0, 0, 0, 0, 0, [])),
  (124, (9, 0, 0, 0, 0, 0, [])),
  (125, (55, 0, 0, 19, 257, 227, [])),
  (128, (55, 0, 0, 68, 224, 89, [])),
  (131, (64, 0, 0, 0, 0, 0, [])),
  (132, (9, 0, 0, 0, 0, 0, [])),
  (133, (55, 0, 0, 19, 257, 227, [])),
  (136, (55, 0, 0, 110, 229, 109, [])),
  (139, (64, 0, 0, 0, 0, 0, [])),
  (140, (9, 0, 0, 0, 0, 0, [])),
  (141, (55, 0, 0, 19, 257, 227, [])),
  (144, (55, 0, 0, 144, 225, 96, [])),
  (147, (64, 0, 0, 0, 0, 0, [])),
  (148, (9, 0, 0, 0, 0, 0, [])),
  (149, (55, 0, 0, 19, 257, 227, [])),
  (152, (55, 0, 0, 251, 226, 100, [])),
  (155, (64, 0, 0, 0, 0, 0, [])),
  (156, (9, 0, 0, 0, 0, 0, [])),
  (157, (55, 0, 0, 19, 257, 227, [])),
  (160, (55, 0, 0, 254, 227, 102, [])),
  (163, (64, 0, 0, 0, 0, 0, [])),
  (164, (9, 0, 0, 0, 0, 0, [])),
  (165, (55, 0, 0, 19, 257, 227, [])),
  (168, (55, 0, 0, 257, 228, 105, [])),
  (171, (64, 0, 0, 0, 0, 0, [])),
  (172, (9, 0, 0, 0, 0, 0, [])),
  (173, (55, 0, 0, 19, 257, 227, [])),
  (176, (55, 0, 0, 215, 235, 122, [])),
  (179, (55, 0, 0, 223, 192, 75, [])),
  (182, (64, 0, 0, 0, 0, 0, [])),
  (183, (1, (-2), 0, 0, 0, 0, [])),
  (185, (64, 0, 0, 0, 0, 0, []))]
def e_X9_told : Ev := (t_X9_told, [(64, (3, 1, 0, 0, s_X9_within)), (188, (2, 1, 0, 0, s_X5_at))], 1, 0, false, 0, fun _ => 0)
def s_X9_told : Sp := spc e_X9_told 2
theorem m_X9_told : monoE e_X9_told := monoE_of (cons_all (p_X9_within) (cons_all (p_X5_at) nil_all))
theorem p_X9_told : mono s_X9_told := spc_mono m_X9_told _
theorem k_X9_told (l : Launch) : Con l y_X9_told prog_1_method_31_code 2 (Option.some Jvm.ClassFile.FieldType.int) { frames := 1, cells := 0, slots := 0, locals := 22 } 1 0 s_X9_told := con_of l e_X9_told y_X9_told prog_1_method_31_code 2 (Option.some Jvm.ClassFile.FieldType.int) _ (by decide +kernel) (cons_all (clS (k_X9_within l) f_X9_within ⟨rfl, rfl, Nat.le_of_ble_eq_true rfl, Nat.le_of_ble_eq_true rfl⟩ (mg 258 (by decide +kernel))) (cons_all (clS (k_X5_at l) f_X5_at ⟨rfl, rfl, Nat.le_of_ble_eq_true rfl, Nat.le_of_ble_eq_true rfl⟩ (mg 538 (by decide +kernel))) nil_all)) (Or.inl (by decide +kernel))
theorem f_X9_told : calV y_X9_told prog_1_method_31_code 2 (Option.some Jvm.ClassFile.FieldType.int) 2 8 := ⟨⟨mem_g (i := 657) (by decide +kernel) rfl, mg 25 (by decide +kernel)⟩, by decide +kernel, by decide +kernel, by decide, mg 655 (by decide +kernel), mg 656 (by decide +kernel), _, rfl, rfl⟩
