section
/-- a private method of a class that the tables say can be made, by its rows of tables_1 -/
def lw_okq (q : MethodName × Nat) : Prop := (q.1.cls ≠ "java/lang/invoke/MethodHandle" ∧ q.1.cls ≠ "java/lang/invoke/VarHandle") ∧ Cond.instantiable q.1.cls q.2 ∈ tables_1 ∧ Cond.privateMethod q.1 ∈ tables_1 ∧ Cond.instanceMethod q.1 ∈ tables_1
theorem lw_p0 : lw_okq (⟨"ActsPaid", "tried", "()LActsPaid$Stage;"⟩, 9) := ⟨⟨by decide +kernel, by decide +kernel⟩, List.mem_of_getElem? (i := 15) (by decide +kernel), List.mem_of_getElem? (i := 392) (by decide +kernel), List.mem_of_getElem? (i := 393) (by decide +kernel)⟩
theorem lw_p1 : lw_okq (⟨"ActsPaid", "imageOf", "(I)LActsPaid$Image;"⟩, 9) := ⟨⟨by decide +kernel, by decide +kernel⟩, List.mem_of_getElem? (i := 15) (by decide +kernel), List.mem_of_getElem? (i := 623) (by decide +kernel), List.mem_of_getElem? (i := 624) (by decide +kernel)⟩
theorem lw_p2 : lw_okq (⟨"ActsPaidModel", "plain", "()V"⟩, 27) := ⟨⟨by decide +kernel, by decide +kernel⟩, List.mem_of_getElem? (i := 635) (by decide +kernel), List.mem_of_getElem? (i := 641) (by decide +kernel), List.mem_of_getElem? (i := 642) (by decide +kernel)⟩
theorem lw_p3 : lw_okq (⟨"ActsPaidModel", "guestFault", "()I"⟩, 27) := ⟨⟨by decide +kernel, by decide +kernel⟩, List.mem_of_getElem? (i := 635) (by decide +kernel), List.mem_of_getElem? (i := 751) (by decide +kernel), List.mem_of_getElem? (i := 752) (by decide +kernel)⟩
theorem lw_p4 : lw_okq (⟨"ActsPaidModel", "orderFault", "()I"⟩, 27) := ⟨⟨by decide +kernel, by decide +kernel⟩, List.mem_of_getElem? (i := 635) (by decide +kernel), List.mem_of_getElem? (i := 755) (by decide +kernel), List.mem_of_getElem? (i := 756) (by decide +kernel)⟩
theorem lw_p5 : lw_okq (⟨"ActsPaidModel", "isAct", "(I)Z"⟩, 27) := ⟨⟨by decide +kernel, by decide +kernel⟩, List.mem_of_getElem? (i := 635) (by decide +kernel), List.mem_of_getElem? (i := 759) (by decide +kernel), List.mem_of_getElem? (i := 760) (by decide +kernel)⟩
theorem lw_p6 : lw_okq (⟨"ActsPaidModel", "comes", "(I)Z"⟩, 27) := ⟨⟨by decide +kernel, by decide +kernel⟩, List.mem_of_getElem? (i := 635) (by decide +kernel), List.mem_of_getElem? (i := 777) (by decide +kernel), List.mem_of_getElem? (i := 778) (by decide +kernel)⟩
theorem lw_p7 : lw_okq (⟨"ActsPaidModel", "leavesAt", "(I)I"⟩, 27) := ⟨⟨by decide +kernel, by decide +kernel⟩, List.mem_of_getElem? (i := 635) (by decide +kernel), List.mem_of_getElem? (i := 793) (by decide +kernel), List.mem_of_getElem? (i := 794) (by decide +kernel)⟩
theorem lw_p8 : lw_okq (⟨"ActsPaidModel", "faresOf", "(II)I"⟩, 27) := ⟨⟨by decide +kernel, by decide +kernel⟩, List.mem_of_getElem? (i := 635) (by decide +kernel), List.mem_of_getElem? (i := 797) (by decide +kernel), List.mem_of_getElem? (i := 798) (by decide +kernel)⟩
theorem lw_p9 : lw_okq (⟨"ActsPaidModel", "allTakings", "()I"⟩, 27) := ⟨⟨by decide +kernel, by decide +kernel⟩, List.mem_of_getElem? (i := 635) (by decide +kernel), List.mem_of_getElem? (i := 805) (by decide +kernel), List.mem_of_getElem? (i := 806) (by decide +kernel)⟩
theorem lw_p10 : lw_okq (⟨"ActsPaidModel", "paysOf", "(I)I"⟩, 27) := ⟨⟨by decide +kernel, by decide +kernel⟩, List.mem_of_getElem? (i := 635) (by decide +kernel), List.mem_of_getElem? (i := 809) (by decide +kernel), List.mem_of_getElem? (i := 810) (by decide +kernel)⟩
theorem lw_p11 : lw_okq (⟨"ActsPaidModel", "isAhead", "(II)Z"⟩, 27) := ⟨⟨by decide +kernel, by decide +kernel⟩, List.mem_of_getElem? (i := 635) (by decide +kernel), List.mem_of_getElem? (i := 825) (by decide +kernel), List.mem_of_getElem? (i := 826) (by decide +kernel)⟩
theorem lw_p12 : lw_okq (⟨"ActsPaidModel", "firstRow", "(I)V"⟩, 27) := ⟨⟨by decide +kernel, by decide +kernel⟩, List.mem_of_getElem? (i := 635) (by decide +kernel), List.mem_of_getElem? (i := 833) (by decide +kernel), List.mem_of_getElem? (i := 834) (by decide +kernel)⟩
theorem lw_p13 : lw_okq (⟨"ActsPaidModel", "keepsMust", "()Z"⟩, 27) := ⟨⟨by decide +kernel, by decide +kernel⟩, List.mem_of_getElem? (i := 635) (by decide +kernel), List.mem_of_getElem? (i := 837) (by decide +kernel), List.mem_of_getElem? (i := 838) (by decide +kernel)⟩
theorem lw_p14 : lw_okq (⟨"ActsPaidModel", "nextRow", "(I)Z"⟩, 27) := ⟨⟨by decide +kernel, by decide +kernel⟩, List.mem_of_getElem? (i := 635) (by decide +kernel), List.mem_of_getElem? (i := 841) (by decide +kernel), List.mem_of_getElem? (i := 842) (by decide +kernel)⟩
theorem lw_p15 : lw_okq (⟨"ActsPaidModel", "change", "(II)V"⟩, 27) := ⟨⟨by decide +kernel, by decide +kernel⟩, List.mem_of_getElem? (i := 635) (by decide +kernel), List.mem_of_getElem? (i := 845) (by decide +kernel), List.mem_of_getElem? (i := 846) (by decide +kernel)⟩
def lw_privs_1 : List (MethodName × Nat) := [(⟨"ActsPaid", "tried", "()LActsPaid$Stage;"⟩, 9), (⟨"ActsPaid", "imageOf", "(I)LActsPaid$Image;"⟩, 9), (⟨"ActsPaidModel", "plain", "()V"⟩, 27), (⟨"ActsPaidModel", "guestFault", "()I"⟩, 27), (⟨"ActsPaidModel", "orderFault", "()I"⟩, 27), (⟨"ActsPaidModel", "isAct", "(I)Z"⟩, 27), (⟨"ActsPaidModel", "comes", "(I)Z"⟩, 27), (⟨"ActsPaidModel", "leavesAt", "(I)I"⟩, 27), (⟨"ActsPaidModel", "faresOf", "(II)I"⟩, 27), (⟨"ActsPaidModel", "allTakings", "()I"⟩, 27), (⟨"ActsPaidModel", "paysOf", "(I)I"⟩, 27), (⟨"ActsPaidModel", "isAhead", "(II)Z"⟩, 27), (⟨"ActsPaidModel", "firstRow", "(I)V"⟩, 27), (⟨"ActsPaidModel", "keepsMust", "()Z"⟩, 27), (⟨"ActsPaidModel", "nextRow", "(I)Z"⟩, 27), (⟨"ActsPaidModel", "change", "(II)V"⟩, 27)]
theorem lw_r1 : ∀ q ∈ lw_privs_1, lw_okq q := List.forall_mem_cons.mpr ⟨lw_p0, List.forall_mem_cons.mpr ⟨lw_p1, List.forall_mem_cons.mpr ⟨lw_p2, List.forall_mem_cons.mpr ⟨lw_p3, List.forall_mem_cons.mpr ⟨lw_p4, List.forall_mem_cons.mpr ⟨lw_p5, List.forall_mem_cons.mpr ⟨lw_p6, List.forall_mem_cons.mpr ⟨lw_p7, List.forall_mem_cons.mpr ⟨lw_p8, List.forall_mem_cons.mpr ⟨lw_p9, List.forall_mem_cons.mpr ⟨lw_p10, List.forall_mem_cons.mpr ⟨lw_p11, List.forall_mem_cons.mpr ⟨lw_p12, List.forall_mem_cons.mpr ⟨lw_p13, List.forall_mem_cons.mpr ⟨lw_p14, List.forall_mem_cons.mpr ⟨lw_p15, fun _ h => absurd h List.not_mem_nil⟩⟩⟩⟩⟩⟩⟩⟩⟩⟩⟩⟩⟩⟩⟩⟩
theorem lw_p16 : lw_okq (⟨"ActsPaidModel", "raise", "(II)V"⟩, 27) := ⟨⟨by decide +kernel, by decide +kernel⟩, List.mem_of_getElem? (i := 635) (by decide +kernel), List.mem_of_getElem? (i := 853) (by decide +kernel), List.mem_of_getElem? (i := 854) (by decide +kernel)⟩
theorem lw_p17 : lw_okq (⟨"ActsPaidModel", "risen", "(I)I"⟩, 27) := ⟨⟨by decide +kernel, by decide +kernel⟩, List.mem_of_getElem? (i := 635) (by decide +kernel), List.mem_of_getElem? (i := 865) (by decide +kernel), List.mem_of_getElem? (i := 866) (by decide +kernel)⟩
theorem lw_p18 : lw_okq (⟨"ActsPaidModel", "keepsFriends", "(I)Z"⟩, 27) := ⟨⟨by decide +kernel, by decide +kernel⟩, List.mem_of_getElem? (i := 635) (by decide +kernel), List.mem_of_getElem? (i := 869) (by decide +kernel), List.mem_of_getElem? (i := 870) (by decide +kernel)⟩
theorem lw_p19 : lw_okq (⟨"ActsPaidModel", "goOver", "(I)V"⟩, 27) := ⟨⟨by decide +kernel, by decide +kernel⟩, List.mem_of_getElem? (i := 635) (by decide +kernel), List.mem_of_getElem? (i := 881) (by decide +kernel), List.mem_of_getElem? (i := 882) (by decide +kernel)⟩
theorem lw_p20 : lw_okq (⟨"ActsPaidModel", "takenBy", "(I)I"⟩, 27) := ⟨⟨by decide +kernel, by decide +kernel⟩, List.mem_of_getElem? (i := 635) (by decide +kernel), List.mem_of_getElem? (i := 890) (by decide +kernel), List.mem_of_getElem? (i := 891) (by decide +kernel)⟩
theorem lw_p21 : lw_okq (⟨"ActsPaidModel", "isSeen", "(I)Z"⟩, 27) := ⟨⟨by decide +kernel, by decide +kernel⟩, List.mem_of_getElem? (i := 635) (by decide +kernel), List.mem_of_getElem? (i := 910) (by decide +kernel), List.mem_of_getElem? (i := 911) (by decide +kernel)⟩
theorem lw_p22 : lw_okq (⟨"ActsPaidModel", "layPays", "()V"⟩, 27) := ⟨⟨by decide +kernel, by decide +kernel⟩, List.mem_of_getElem? (i := 635) (by decide +kernel), List.mem_of_getElem? (i := 919) (by decide +kernel), List.mem_of_getElem? (i := 920) (by decide +kernel)⟩
theorem lw_p23 : lw_okq (⟨"ActsPaidModel", "takenOf", "(I)I"⟩, 27) := ⟨⟨by decide +kernel, by decide +kernel⟩, List.mem_of_getElem? (i := 635) (by decide +kernel), List.mem_of_getElem? (i := 923) (by decide +kernel), List.mem_of_getElem? (i := 924) (by decide +kernel)⟩
def lw_privs_2 : List (MethodName × Nat) := [(⟨"ActsPaidModel", "raise", "(II)V"⟩, 27), (⟨"ActsPaidModel", "risen", "(I)I"⟩, 27), (⟨"ActsPaidModel", "keepsFriends", "(I)Z"⟩, 27), (⟨"ActsPaidModel", "goOver", "(I)V"⟩, 27), (⟨"ActsPaidModel", "takenBy", "(I)I"⟩, 27), (⟨"ActsPaidModel", "isSeen", "(I)Z"⟩, 27), (⟨"ActsPaidModel", "layPays", "()V"⟩, 27), (⟨"ActsPaidModel", "takenOf", "(I)I"⟩, 27)]
theorem lw_r2 : ∀ q ∈ lw_privs_2, lw_okq q := List.forall_mem_cons.mpr ⟨lw_p16, List.forall_mem_cons.mpr ⟨lw_p17, List.forall_mem_cons.mpr ⟨lw_p18, List.forall_mem_cons.mpr ⟨lw_p19, List.forall_mem_cons.mpr ⟨lw_p20, List.forall_mem_cons.mpr ⟨lw_p21, List.forall_mem_cons.mpr ⟨lw_p22, List.forall_mem_cons.mpr ⟨lw_p23, fun _ h => absurd h List.not_mem_nil⟩⟩⟩⟩⟩⟩⟩⟩
def lw_privs : List (MethodName × Nat) := lw_privs_1 ++ (lw_privs_2)
def lw_tbl : List Cond := k2_sels lw_privs ++ tables_1
theorem lw_privs_ok : ∀ q ∈ lw_privs, lw_okq q := by
  show ∀ q ∈ lw_privs_1 ++ (lw_privs_2), lw_okq q
  exact List.forall_mem_append.mpr ⟨lw_r1, lw_r2⟩

def RX0 : String := "ActsPaid$Chances"
def TX0 : u_T := fun k => match k with
  | _ => ("ActsPaid$Chances", "payments", "[I", true)
def tyX0 : Nat → FieldType := fun k => match k with
  | _ => .array .int
abbrev wsX00 : List Cond := u_ws RX0 TX0 1
theorem nmX0 : ∀ a, a < 1 → ∀ b, b < 1 → a ≠ b → (TX0 a).2.1 ≠ (TX0 b).2.1 := by decide +kernel
theorem tyX0_ok : ∀ k, k < 1 → parseFieldDescriptor (TX0 k).2.2.1 = some (tyX0 k) := by decide +kernel
def RX1 : String := "ActsPaid$Houses"
def TX1 : u_T := fun k => match k with
  | 0 => ("ActsPaid$Houses", "goesOver", "I", false)
  | 1 => ("ActsPaid$Houses", "goesHome", "I", false)
  | 2 => ("ActsPaid$Houses", "takenHere", "I", false)
  | 3 => ("ActsPaid$Houses", "takenThere", "I", false)
  | 4 => ("ActsPaid$Houses", "here", "[I", true)
  | _ => ("ActsPaid$Houses", "there", "[I", true)
def tyX1 : Nat → FieldType := fun k => match k with
  | 0 => .int
  | 1 => .int
  | 2 => .int
  | 3 => .int
  | 4 => .array .int
  | _ => .array .int
abbrev wsX10 : List Cond := u_ws RX1 TX1 6
theorem nmX1 : ∀ a, a < 6 → ∀ b, b < 6 → a ≠ b → (TX1 a).2.1 ≠ (TX1 b).2.1 := by decide +kernel
theorem tyX1_ok : ∀ k, k < 6 → parseFieldDescriptor (TX1 k).2.2.1 = some (tyX1 k) := by decide +kernel
def RX2 : String := "ActsPaid$Image"
def TX2 : u_T := fun k => match k with
  | 0 => ("ActsPaid$Image", "kept", "LActsPaid$Stage;", true)
  | _ => ("ActsPaid$Image", "taken", "Z", false)
def tyX2 : Nat → FieldType := fun k => match k with
  | 0 => .object "ActsPaid$Stage"
  | _ => .boolean
abbrev wsX20 : List Cond := u_ws RX2 TX2 2
theorem nmX2 : ∀ a, a < 2 → ∀ b, b < 2 → a ≠ b → (TX2 a).2.1 ≠ (TX2 b).2.1 := by decide +kernel
theorem tyX2_ok : ∀ k, k < 2 → parseFieldDescriptor (TX2 k).2.2.1 = some (tyX2 k) := by decide +kernel
def RX3 : String := "ActsPaid$Pad"
def TX3 : u_T := fun k => match k with
  | 0 => ("ActsPaid$Pad", "signs", "[I", true)
  | _ => ("ActsPaid$Pad", "count", "I", false)
def tyX3 : Nat → FieldType := fun k => match k with
  | 0 => .array .int
  | _ => .int
abbrev wsX30 : List Cond := u_ws RX3 TX3 2
theorem nmX3 : ∀ a, a < 2 → ∀ b, b < 2 → a ≠ b → (TX3 a).2.1 ≠ (TX3 b).2.1 := by decide +kernel
theorem tyX3_ok : ∀ k, k < 2 → parseFieldDescriptor (TX3 k).2.2.1 = some (tyX3 k) := by decide +kernel
def RX4 : String := "ActsPaid$Programme"
def TX4 : u_T := fun k => match k with
  | _ => ("ActsPaid$Programme", "best", "[I", true)
def tyX4 : Nat → FieldType := fun k => match k with
  | _ => .array .int
abbrev wsX40 : List Cond := u_ws RX4 TX4 1
theorem nmX4 : ∀ a, a < 1 → ∀ b, b < 1 → a ≠ b → (TX4 a).2.1 ≠ (TX4 b).2.1 := by decide +kernel
theorem tyX4_ok : ∀ k, k < 1 → parseFieldDescriptor (TX4 k).2.2.1 = some (tyX4 k) := by decide +kernel
def RX5 : String := "ActsPaid$Rows"
def TX5 : u_T := fun k => match k with
  | _ => ("", "", "", false)
def tyX5 : Nat → FieldType := fun k => match k with
  | _ => .int
abbrev wsX50 : List Cond := u_ws RX5 TX5 0
theorem nmX5 : ∀ a, a < 0 → ∀ b, b < 0 → a ≠ b → (TX5 a).2.1 ≠ (TX5 b).2.1 := by decide +kernel
theorem tyX5_ok : ∀ k, k < 0 → parseFieldDescriptor (TX5 k).2.2.1 = some (tyX5 k) := by decide +kernel
def RX6 : String := "ActsPaid$Seats"
def TX6 : u_T := fun k => match k with
  | 0 => ("ActsPaid$Seats", "fewest", "[I", true)
  | _ => ("ActsPaid$Seats", "later", "[I", true)
def tyX6 : Nat → FieldType := fun k => match k with
  | 0 => .array .int
  | _ => .array .int
abbrev wsX60 : List Cond := u_ws RX6 TX6 2
theorem nmX6 : ∀ a, a < 2 → ∀ b, b < 2 → a ≠ b → (TX6 a).2.1 ≠ (TX6 b).2.1 := by decide +kernel
theorem tyX6_ok : ∀ k, k < 2 → parseFieldDescriptor (TX6 k).2.2.1 = some (tyX6 k) := by decide +kernel
def RX7 : String := "ActsPaid$Sights"
def TX7 : u_T := fun k => match k with
  | 0 => ("ActsPaid$Sights", "count", "I", false)
  | 1 => ("ActsPaid$Sights", "guests", "[I", true)
  | 2 => ("ActsPaid$Sights", "behinds", "[I", true)
  | _ => ("ActsPaid$Sights", "bases", "[I", true)
def tyX7 : Nat → FieldType := fun k => match k with
  | 0 => .int
  | 1 => .array .int
  | 2 => .array .int
  | _ => .array .int
abbrev wsX70 : List Cond := u_ws RX7 TX7 4
theorem nmX7 : ∀ a, a < 4 → ∀ b, b < 4 → a ≠ b → (TX7 a).2.1 ≠ (TX7 b).2.1 := by decide +kernel
theorem tyX7_ok : ∀ k, k < 4 → parseFieldDescriptor (TX7 k).2.2.1 = some (tyX7 k) := by decide +kernel
def RX8 : String := "ActsPaid$Stage"
def TX8 : u_T := fun k => match k with
  | 0 => ("ActsPaid$Stage", "acts", "I", false)
  | 1 => ("ActsPaid$Stage", "base", "I", false)
  | 2 => ("ActsPaid$Stage", "step", "I", false)
  | 3 => ("ActsPaid$Stage", "law", "I", false)
  | 4 => ("ActsPaid$Stage", "baseThere", "I", false)
  | 5 => ("ActsPaid$Stage", "present", "I", false)
  | 6 => ("ActsPaid$Stage", "order", "[I", true)
  | 7 => ("ActsPaid$Stage", "worths", "[I", true)
  | 8 => ("ActsPaid$Stage", "worthsThere", "[I", true)
  | 9 => ("ActsPaid$Stage", "after", "[I", true)
  | 10 => ("ActsPaid$Stage", "friendsOf", "[I", true)
  | _ => ("ActsPaid$Stage", "sights", "LActsPaid$Sights;", true)
def tyX8 : Nat → FieldType := fun k => match k with
  | 0 => .int
  | 1 => .int
  | 2 => .int
  | 3 => .int
  | 4 => .int
  | 5 => .int
  | 6 => .array .int
  | 7 => .array .int
  | 8 => .array .int
  | 9 => .array .int
  | 10 => .array .int
  | _ => .object "ActsPaid$Sights"
abbrev wsX80 : List Cond := u_ws RX8 TX8 12
theorem nmX8 : ∀ a, a < 12 → ∀ b, b < 12 → a ≠ b → (TX8 a).2.1 ≠ (TX8 b).2.1 := by decide +kernel
theorem tyX8_ok : ∀ k, k < 12 → parseFieldDescriptor (TX8 k).2.2.1 = some (tyX8 k) := by decide +kernel
def RX9 : String := "ActsPaid"
def TX9 : u_T := fun k => match k with
  | 0 => ("ActsPaid", "pad", "LActsPaid$Pad;", true)
  | 1 => ("ActsPaid", "stage", "LActsPaid$Stage;", true)
  | 2 => ("ActsPaid", "trial", "LActsPaid$Stage;", true)
  | 3 => ("ActsPaid", "firstImage", "LActsPaid$Image;", true)
  | 4 => ("ActsPaid", "secondImage", "LActsPaid$Image;", true)
  | 5 => ("ActsPaid", "programme", "LActsPaid$Programme;", true)
  | 6 => ("ActsPaid", "seats", "LActsPaid$Seats;", true)
  | 7 => ("ActsPaid", "houses", "LActsPaid$Houses;", true)
  | _ => ("ActsPaid", "chances", "LActsPaid$Chances;", true)
def tyX9 : Nat → FieldType := fun k => match k with
  | 0 => .object "ActsPaid$Pad"
  | 1 => .object "ActsPaid$Stage"
  | 2 => .object "ActsPaid$Stage"
  | 3 => .object "ActsPaid$Image"
  | 4 => .object "ActsPaid$Image"
  | 5 => .object "ActsPaid$Programme"
  | 6 => .object "ActsPaid$Seats"
  | 7 => .object "ActsPaid$Houses"
  | _ => .object "ActsPaid$Chances"
abbrev wsX90 : List Cond := u_ws RX9 TX9 9
theorem nmX9 : ∀ a, a < 9 → ∀ b, b < 9 → a ≠ b → (TX9 a).2.1 ≠ (TX9 b).2.1 := by decide +kernel
theorem tyX9_ok : ∀ k, k < 9 → parseFieldDescriptor (TX9 k).2.2.1 = some (tyX9 k) := by decide +kernel
def RX10 : String := "ActsPaidModel"
def TX10 : u_T := fun k => match k with
  | 0 => ("ActsPaidModel", "acts", "I", false)
  | 1 => ("ActsPaidModel", "come", "I", false)
  | 2 => ("ActsPaidModel", "base", "I", false)
  | 3 => ("ActsPaidModel", "step", "I", false)
  | 4 => ("ActsPaidModel", "law", "I", false)
  | 5 => ("ActsPaidModel", "there", "I", false)
  | 6 => ("ActsPaidModel", "worth", "[I", true)
  | 7 => ("ActsPaidModel", "order", "[I", true)
  | 8 => ("ActsPaidModel", "behind", "[I", true)
  | 9 => ("ActsPaidModel", "others", "[I", true)
  | 10 => ("ActsPaidModel", "beside", "[I", true)
  | 11 => ("ActsPaidModel", "sights", "I", false)
  | 12 => ("ActsPaidModel", "sight", "[I", true)
  | 13 => ("ActsPaidModel", "signs", "I", false)
  | 14 => ("ActsPaidModel", "pad", "[I", true)
  | 15 => ("ActsPaidModel", "own", "I", false)
  | 16 => ("ActsPaidModel", "row", "[I", true)
  | 17 => ("ActsPaidModel", "kept", "[I", true)
  | 18 => ("ActsPaidModel", "best", "[I", true)
  | 19 => ("ActsPaidModel", "who", "[I", true)
  | 20 => ("ActsPaidModel", "end", "[I", true)
  | 21 => ("ActsPaidModel", "goesAt", "I", false)
  | 22 => ("ActsPaidModel", "endsAt", "I", false)
  | 23 => ("ActsPaidModel", "taken", "[I", true)
  | 24 => ("ActsPaidModel", "pays", "[I", true)
  | 25 => ("ActsPaidModel", "image", "[I", true)
  | _ => ("ActsPaidModel", "isKept", "[Z", true)
def tyX10 : Nat → FieldType := fun k => match k with
  | 0 => .int
  | 1 => .int
  | 2 => .int
  | 3 => .int
  | 4 => .int
  | 5 => .int
  | 6 => .array .int
  | 7 => .array .int
  | 8 => .array .int
  | 9 => .array .int
  | 10 => .array .int
  | 11 => .int
  | 12 => .array .int
  | 13 => .int
  | 14 => .array .int
  | 15 => .int
  | 16 => .array .int
  | 17 => .array .int
  | 18 => .array .int
  | 19 => .array .int
  | 20 => .array .int
  | 21 => .int
  | 22 => .int
  | 23 => .array .int
  | 24 => .array .int
  | 25 => .array .int
  | _ => .array .boolean
abbrev wsX100 : List Cond := u_ws RX10 TX10 27
theorem nmX10 : ∀ a, a < 27 → ∀ b, b < 27 → a ≠ b → (TX10 a).2.1 ≠ (TX10 b).2.1 := by decide +kernel
theorem tyX10_ok : ∀ k, k < 27 → parseFieldDescriptor (TX10 k).2.2.1 = some (tyX10 k) := by decide +kernel
def RL : String := "ActsPaidLaw"
abbrev vwCl : List vw_C := [(RX0, TX0, 1), (RX1, TX1, 6), (RX2, TX2, 2), (RX3, TX3, 2), (RX4, TX4, 1), (RX6, TX6, 2), (RX7, TX7, 4), (RX8, TX8, 12), (RX9, TX9, 9), (RX10, TX10, 27)]
end
section
/-! ===== a small machine over the cells of this system: values, layout, memory ===== -/
abbrev MV : Type := Int32 ⊕ (Int64 ⊕ ((Nat × Nat × Nat) ⊕ Unit))
abbrev mI (x : Int32) : MV := .inl x
abbrev mJ (x : Int64) : MV := .inr (.inl x)
abbrev mR (k t c : Nat) : MV := .inr (.inr (.inl (k, t, c)))
abbrev mO (t c : Nat) : MV := mR 0 t c
abbrev mA (n c : Nat) : MV := mR 1 n c
abbrev mZ (n c : Nat) : MV := mR 2 n c
abbrev mQ : MV := mR 3 0 0
abbrev mU : MV := .inr (.inr (.inr ()))
abbrev Mm : Type := Nat → Nat → Int32
def mS (μ : Mm) (c k : Nat) (x : Int32) : Mm := fun c' k' => if c' = c ∧ k' = k then x else μ c' k'
abbrev Sp : Type := List MV → Mm → (MV → Mm → Prop) → Prop
/-- the cells: (class, 0) an object, (20, n) a row of n ints, (21, n) of n booleans -/
def lyS : List (Nat × Nat) := [(7, 0), (20, 6), (20, 48), (20, 6), (20, 6), (20, 8), (6, 0), (20, 6), (20, 6), (20, 6)]
def lyL : List (Nat × Nat) := [(8, 0), (3, 0), (20, 48)] ++ lyS ++ lyS ++ [(2, 0)] ++ lyS ++ [(2, 0)] ++ lyS ++ [(4, 0), (20, 6), (5, 0), (20, 2048), (20, 8), (1, 0), (20, 100), (20, 100), (0, 0), (20, 8)] ++ [(9, 0), (20, 48), (20, 6), (20, 6), (20, 6), (20, 8), (20, 18), (20, 48), (20, 8), (20, 8), (20, 8), (20, 8), (20, 8), (20, 200), (20, 8), (20, 200), (21, 2)]
/-- the fields of a class: (0, ..) int, (1, ..) boolean, (2, off, t) an object of class t at the cell's number and off, (3, off, n) a row of ints, (4, off, n) of booleans -/
def foL : List (List (Nat × Nat × Nat)) := [
  [(3, 1, 8)],
  [(0, 0, 0), (0, 0, 0), (0, 0, 0), (0, 0, 0), (3, 1, 100), (3, 2, 100)],
  [(2, 1, 7), (1, 0, 0)],
  [(3, 1, 48), (0, 0, 0)],
  [(3, 1, 6)],
  [(3, 1, 2048), (3, 2, 8)],
  [(0, 0, 0), (3, 1, 6), (3, 2, 6), (3, 3, 6)],
  [(0, 0, 0), (0, 0, 0), (0, 0, 0), (0, 0, 0), (0, 0, 0), (0, 0, 0), (3, 1, 6), (3, 2, 48), (3, 3, 6), (3, 4, 6), (3, 5, 8), (2, 6, 6)],
  [(2, 1, 3), (2, 3, 7), (2, 13, 7), (2, 23, 2), (2, 34, 2), (2, 45, 4), (2, 47, 5), (2, 50, 1), (2, 53, 0)],
  [(0, 0, 0), (0, 0, 0), (0, 0, 0), (0, 0, 0), (0, 0, 0), (0, 0, 0), (3, 1, 48), (3, 2, 6), (3, 3, 6), (3, 4, 6), (3, 5, 8), (0, 0, 0), (3, 6, 18), (0, 0, 0), (3, 7, 48), (0, 0, 0), (3, 8, 8), (3, 9, 8), (3, 10, 8), (3, 11, 8), (3, 12, 8), (0, 0, 0), (0, 0, 0), (3, 13, 200), (3, 14, 8), (3, 15, 200), (4, 16, 2)]]
def fo (t k : Nat) : Nat × Nat × Nat := (foL.getD t []).getD k (9, 0, 0)
def mF (μ : Mm) (c k : Nat) (f : Nat × Nat × Nat) : MV := match f with
  | (0, _, _) => mI (μ c k)
  | (1, _, _) => mI (μ c k)
  | (2, off, t) => mO t (c + off)
  | (3, off, n) => mA n (c + off)
  | (_, off, n) => mZ n (c + off)
def tv (ad : Nat → Nat) (b : Nat) (v : MV) : Value := match v with
  | .inl x => .int x
  | .inr (.inl x) => .long x
  | .inr (.inr (.inl (k, _, c))) => if k = 3 then .ref b else .ref (ad c)
  | .inr (.inr (.inr _)) => .null
def wtv (sc : Bool) (v : MV) : Prop := match v with
  | .inl _ => True
  | .inr (.inl _) => True
  | .inr (.inr (.inl (k, t, c))) => if k = 3 then sc = true else if k = 0 then lyL[c]? = some (t, 0) ∧ t < 10 else if k = 1 then lyL[c]? = some (20, t) else k = 2 ∧ lyL[c]? = some (21, t)
  | .inr (.inr (.inr _)) => True
def cE (ad : Nat → Nat) (cI cB : Nat) (μ : Mm) (c : Nat) (q : Nat × Nat) : va_E :=
  if q.1 = 20 then .inl (cI, q.2, .inl (μ c)) else if q.1 = 21 then .inl (cB, q.2, .inl (μ c)) else .inr (q.1, (foL.getD q.1 []).mapIdx (fun k f => tv ad 0 (mF μ c k f)))
def wl (ad : Nat → Nat) (cI cB : Nat) (μ : Mm) : va_W := lyL.mapIdx (fun c q => (ad c, cE ad cI cB μ c q))
abbrev ty2 (cI cB : Nat) : List (ClassId × FieldType) := [(cI, .int), (cB, .boolean)]
def vI (v : MV) : Int32 := match v with
  | .inl x => x
  | _ => 0
def vJ (v : MV) : Int64 := match v with
  | .inr (.inl x) => x
  | _ => 0
def vC (v : MV) : Nat := match v with
  | .inr (.inr (.inl q)) => q.2.2
  | _ => 0
def zb (x : Int32) : Prop := x = 0 ∨ x = 1
def vi (i : Int32) (n : Nat) : Prop := 0 ≤ i.toInt ∧ i.toInt < n
def ctS : List MV → Nat
  | [] => 0
  | .inr (.inl _) :: S => 2 + ctS S
  | _ :: S => 1 + ctS S
/-- an instruction: what it is, a number, a long, three numbers (an index, a place or target ..), a table of targets -/
abbrev Ao : Type := Nat × Int32 × Int64 × Nat × Nat × Nat × List (Int32 × Nat)
/-- a call: how many values it takes, what it answers (0 nothing, 1 int, 2 long, 3 an object of the class behind), the receiver's class and 1 (0: static), what it does -/
abbrev Ce : Type := Nat × Nat × Nat × Nat × Sp
/-- a method: code, calls, what it answers (4: a boolean), of which class, has it longs; a script -/
abbrev Ev : Type := List (Nat × Ao) × List (Nat × Ce) × Nat × Nat × Bool × Nat × (Nat → Int32)
def lk {α : Type} : List (Nat × α) → Nat → Option α
  | [], _ => none
  | q :: r, k => bif Nat.beq q.1 k then some q.2 else lk r k
def clr (L : List MV) (a : Nat) : List MV := match a with
  | 0 => L
  | a' + 1 => match L[a']? with
    | some (.inr (.inl _)) => L.set a' mU
    | _ => L
def sto (lg : Bool) (L : List MV) (a : Nat) (v : MV) : List MV := bif lg then (clr L a).set a v else L.set a v
def swt (J : List (Int32 × Nat)) (d : Nat) (x : Int32) (P : Nat → Prop) : Prop := match J with
  | [] => P d
  | q :: r => if x = q.1 then P q.2 else swt r d x P
def rck (rc : Nat) (As : List MV) : Bool := match rc with
  | 0 => true
  | t + 1 => match As with
    | .inr (.inr (.inl (0, t', _))) :: _ => Nat.beq t' t
    | _ => false
def nq : List MV → Bool
  | [] => true
  | .inr (.inr (.inl (3, _, _))) :: _ => false
  | _ :: S => nq S
/-- behind a call: its answer on the stack -/
def knd (kind rt : Nat) (v : MV) (S : List MV) (k : List MV → Prop) : Prop := match kind with
  | 0 => k S
  | 1 => k (mI (vI v) :: S)
  | 2 => k (mJ (vJ v) :: S)
  | _ => k (mO rt (vC v) :: S)
def cll (ce : Option Ce) (S : List MV) (μ : Mm) (k : List MV → Mm → Prop) : Prop := match ce with
  | some (n, kind, rt, rc, sp) => bif Nat.ble n S.length && (Nat.ble (ctS (S.drop n)) 8 && (rck rc (S.take n).reverse && nq (S.take n))) then sp (S.take n).reverse μ (fun v μ1 => knd kind rt v (S.drop n) (fun S' => k S' μ1)) else False
  | none => False
/-! what is on the stack, or in a local: taken apart -/
def ldI (o : Option MV) (k : Int32 → Prop) : Prop := match o with
  | some (.inl x) => k x
  | _ => False
theorem ldI_ex {o : Option MV} {k : Int32 → Prop} (h : ldI o k) : ∃ x, o = some (.inl x) ∧ k x := by
  unfold ldI at h
  split at h
  · exact ⟨_, rfl, h⟩
  · exact h.elim
theorem ldI_mono {o : Option MV} {k k' : Int32 → Prop} (h : ∀ x, k x → k' x) : ldI o k → ldI o k' := by
  unfold ldI
  split
  · exact h _
  · exact fun g => g
def ldJ (o : Option MV) (k : Int64 → Prop) : Prop := match o with
  | some (.inr (.inl x)) => k x
  | _ => False
theorem ldJ_ex {o : Option MV} {k : Int64 → Prop} (h : ldJ o k) : ∃ x, o = some (.inr (.inl x)) ∧ k x := by
  unfold ldJ at h
  split at h
  · exact ⟨_, rfl, h⟩
  · exact h.elim
theorem ldJ_mono {o : Option MV} {k k' : Int64 → Prop} (h : ∀ x, k x → k' x) : ldJ o k → ldJ o k' := by
  unfold ldJ
  split
  · exact h _
  · exact fun g => g
def ldR (o : Option MV) (k : (Nat × Nat × Nat) → Prop) : Prop := match o with
  | some (.inr (.inr (.inl r))) => k r
  | _ => False
theorem ldR_ex {o : Option MV} {k : (Nat × Nat × Nat) → Prop} (h : ldR o k) : ∃ r, o = some (.inr (.inr (.inl r))) ∧ k r := by
  unfold ldR at h
  split at h
  · exact ⟨_, rfl, h⟩
  · exact h.elim
theorem ldR_mono {o : Option MV} {k k' : (Nat × Nat × Nat) → Prop} (h : ∀ r, k r → k' r) : ldR o k → ldR o k' := by
  unfold ldR
  split
  · exact h _
  · exact fun g => g
def pI (S : List MV) (k : Int32 → List MV → Prop) : Prop := match S with
  | .inl x :: S => k x S
  | _ => False
theorem pI_ex {S : List MV} {k : Int32 → List MV → Prop} (h : pI S k) : ∃ x S', S = .inl x :: S' ∧ k x S' := by
  unfold pI at h
  split at h
  · exact ⟨_, _, rfl, h⟩
  · exact h.elim
theorem pI_mono {S : List MV} {k k' : Int32 → List MV → Prop} (h : ∀ x S, k x S → k' x S) : pI S k → pI S k' := by
  unfold pI
  split
  · exact h _ _
  · exact fun g => g
def pJ (S : List MV) (k : Int64 → List MV → Prop) : Prop := match S with
  | .inr (.inl x) :: S => k x S
  | _ => False
theorem pJ_ex {S : List MV} {k : Int64 → List MV → Prop} (h : pJ S k) : ∃ x S', S = .inr (.inl x) :: S' ∧ k x S' := by
  unfold pJ at h
  split at h
  · exact ⟨_, _, rfl, h⟩
  · exact h.elim
theorem pJ_mono {S : List MV} {k k' : Int64 → List MV → Prop} (h : ∀ x S, k x S → k' x S) : pJ S k → pJ S k' := by
  unfold pJ
  split
  · exact h _ _
  · exact fun g => g
def pR (S : List MV) (k : (Nat × Nat × Nat) → List MV → Prop) : Prop := match S with
  | .inr (.inr (.inl r)) :: S => k r S
  | _ => False
theorem pR_ex {S : List MV} {k : (Nat × Nat × Nat) → List MV → Prop} (h : pR S k) : ∃ r S', S = .inr (.inr (.inl r)) :: S' ∧ k r S' := by
  unfold pR at h
  split at h
  · exact ⟨_, _, rfl, h⟩
  · exact h.elim
theorem pR_mono {S : List MV} {k k' : (Nat × Nat × Nat) → List MV → Prop} (h : ∀ r S, k r S → k' r S) : pR S k → pR S k' := by
  unfold pR
  split
  · exact h _ _
  · exact fun g => g
def pII (S : List MV) (k : Int32 → Int32 → List MV → Prop) : Prop := match S with
  | .inl y :: .inl x :: S => k y x S
  | _ => False
theorem pII_ex {S : List MV} {k : Int32 → Int32 → List MV → Prop} (h : pII S k) : ∃ y x S', S = .inl y :: .inl x :: S' ∧ k y x S' := by
  unfold pII at h
  split at h
  · exact ⟨_, _, _, rfl, h⟩
  · exact h.elim
theorem pII_mono {S : List MV} {k k' : Int32 → Int32 → List MV → Prop} (h : ∀ y x S, k y x S → k' y x S) : pII S k → pII S k' := by
  unfold pII
  split
  · exact h _ _ _
  · exact fun g => g
def pJJ (S : List MV) (k : Int64 → Int64 → List MV → Prop) : Prop := match S with
  | .inr (.inl y) :: .inr (.inl x) :: S => k y x S
  | _ => False
theorem pJJ_ex {S : List MV} {k : Int64 → Int64 → List MV → Prop} (h : pJJ S k) : ∃ y x S', S = .inr (.inl y) :: .inr (.inl x) :: S' ∧ k y x S' := by
  unfold pJJ at h
  split at h
  · exact ⟨_, _, _, rfl, h⟩
  · exact h.elim
theorem pJJ_mono {S : List MV} {k k' : Int64 → Int64 → List MV → Prop} (h : ∀ y x S, k y x S → k' y x S) : pJJ S k → pJJ S k' := by
  unfold pJJ
  split
  · exact h _ _ _
  · exact fun g => g
def pIR (S : List MV) (k : Int32 → (Nat × Nat × Nat) → List MV → Prop) : Prop := match S with
  | .inl x :: .inr (.inr (.inl r)) :: S => k x r S
  | _ => False
theorem pIR_ex {S : List MV} {k : Int32 → (Nat × Nat × Nat) → List MV → Prop} (h : pIR S k) : ∃ x r S', S = .inl x :: .inr (.inr (.inl r)) :: S' ∧ k x r S' := by
  unfold pIR at h
  split at h
  · exact ⟨_, _, _, rfl, h⟩
  · exact h.elim
theorem pIR_mono {S : List MV} {k k' : Int32 → (Nat × Nat × Nat) → List MV → Prop} (h : ∀ x r S, k x r S → k' x r S) : pIR S k → pIR S k' := by
  unfold pIR
  split
  · exact h _ _ _
  · exact fun g => g
def pO (S : List MV) (k : Nat → Nat → List MV → Prop) : Prop := match S with
  | .inr (.inr (.inl (0, t, c))) :: S => k t c S
  | _ => False
theorem pO_ex {S : List MV} {k : Nat → Nat → List MV → Prop} (h : pO S k) : ∃ t c S', S = .inr (.inr (.inl (0, t, c))) :: S' ∧ k t c S' := by
  unfold pO at h
  split at h
  · exact ⟨_, _, _, rfl, h⟩
  · exact h.elim
theorem pO_mono {S : List MV} {k k' : Nat → Nat → List MV → Prop} (h : ∀ t c S, k t c S → k' t c S) : pO S k → pO S k' := by
  unfold pO
  split
  · exact h _ _ _
  · exact fun g => g
def pIO (S : List MV) (k : Int32 → Nat → Nat → List MV → Prop) : Prop := match S with
  | .inl x :: .inr (.inr (.inl (0, t, c))) :: S => k x t c S
  | _ => False
theorem pIO_ex {S : List MV} {k : Int32 → Nat → Nat → List MV → Prop} (h : pIO S k) : ∃ x t c S', S = .inl x :: .inr (.inr (.inl (0, t, c))) :: S' ∧ k x t c S' := by
  unfold pIO at h
  split at h
  · exact ⟨_, _, _, _, rfl, h⟩
  · exact h.elim
theorem pIO_mono {S : List MV} {k k' : Int32 → Nat → Nat → List MV → Prop} (h : ∀ x t c S, k x t c S → k' x t c S) : pIO S k → pIO S k' := by
  unfold pIO
  split
  · exact h _ _ _ _
  · exact fun g => g
def pIIA (S : List MV) (k : Int32 → Int32 → Nat → Nat → List MV → Prop) : Prop := match S with
  | .inl x :: .inl i :: .inr (.inr (.inl (1, n, c))) :: S => k x i n c S
  | _ => False
theorem pIIA_ex {S : List MV} {k : Int32 → Int32 → Nat → Nat → List MV → Prop} (h : pIIA S k) : ∃ x i n c S', S = .inl x :: .inl i :: .inr (.inr (.inl (1, n, c))) :: S' ∧ k x i n c S' := by
  unfold pIIA at h
  split at h
  · exact ⟨_, _, _, _, _, rfl, h⟩
  · exact h.elim
theorem pIIA_mono {S : List MV} {k k' : Int32 → Int32 → Nat → Nat → List MV → Prop} (h : ∀ x i n c S, k x i n c S → k' x i n c S) : pIIA S k → pIIA S k' := by
  unfold pIIA
  split
  · exact h _ _ _ _ _
  · exact fun g => g
def pIZ (S : List MV) (k : Int32 → Nat → Nat → List MV → Prop) : Prop := match S with
  | .inl i :: .inr (.inr (.inl (2, n, c))) :: S => k i n c S
  | _ => False
theorem pIZ_ex {S : List MV} {k : Int32 → Nat → Nat → List MV → Prop} (h : pIZ S k) : ∃ i n c S', S = .inl i :: .inr (.inr (.inl (2, n, c))) :: S' ∧ k i n c S' := by
  unfold pIZ at h
  split at h
  · exact ⟨_, _, _, _, rfl, h⟩
  · exact h.elim
theorem pIZ_mono {S : List MV} {k k' : Int32 → Nat → Nat → List MV → Prop} (h : ∀ i n c S, k i n c S → k' i n c S) : pIZ S k → pIZ S k' := by
  unfold pIZ
  split
  · exact h _ _ _ _
  · exact fun g => g
def pIIZ (S : List MV) (k : Int32 → Int32 → Nat → Nat → List MV → Prop) : Prop := match S with
  | .inl x :: .inl i :: .inr (.inr (.inl (2, n, c))) :: S => k x i n c S
  | _ => False
theorem pIIZ_ex {S : List MV} {k : Int32 → Int32 → Nat → Nat → List MV → Prop} (h : pIIZ S k) : ∃ x i n c S', S = .inl x :: .inl i :: .inr (.inr (.inl (2, n, c))) :: S' ∧ k x i n c S' := by
  unfold pIIZ at h
  split at h
  · exact ⟨_, _, _, _, _, rfl, h⟩
  · exact h.elim
theorem pIIZ_mono {S : List MV} {k k' : Int32 → Int32 → Nat → Nat → List MV → Prop} (h : ∀ x i n c S, k x i n c S → k' x i n c S) : pIIZ S k → pIIZ S k' := by
  unfold pIIZ
  split
  · exact h _ _ _ _ _
  · exact fun g => g
def pV (S : List MV) (k : MV → List MV → Prop) : Prop := match S with
  | .inl x :: S => k (.inl x) S
  | .inr (.inr (.inl r)) :: S => k (.inr (.inr (.inl r))) S
  | _ => False
theorem pV_ex {S : List MV} {k : MV → List MV → Prop} (h : pV S k) : ∃ v S', S = v :: S' ∧ (∀ x, v ≠ mJ x) ∧ k v S' := by
  unfold pV at h
  split at h
  · exact ⟨_, _, rfl, fun x q => (by cases q), h⟩
  · exact ⟨_, _, rfl, fun x q => (by cases q), h⟩
  · exact h.elim
theorem pV_mono {S : List MV} {k k' : MV → List MV → Prop} (h : ∀ v S, k v S → k' v S) : pV S k → pV S k' := by
  unfold pV
  split
  · exact h _ _
  · exact h _ _
  · exact fun g => g
def pIA (S : List MV) (k : Int32 → Nat → Nat → List MV → Prop) (q : Int32 → List MV → Prop) : Prop := match S with
  | .inl i :: .inr (.inr (.inl (1, n, c))) :: S => k i n c S
  | .inl i :: .inr (.inr (.inl (3, _, _))) :: S => q i S
  | _ => False
theorem pIA_ex {S : List MV} {k : Int32 → Nat → Nat → List MV → Prop} {q : Int32 → List MV → Prop} (h : pIA S k q) : (∃ i n c S', S = .inl i :: .inr (.inr (.inl (1, n, c))) :: S' ∧ k i n c S') ∨ ∃ i z1 z2 S', S = .inl i :: .inr (.inr (.inl (3, z1, z2))) :: S' ∧ q i S' := by
  unfold pIA at h
  split at h
  · exact Or.inl ⟨_, _, _, _, rfl, h⟩
  · exact Or.inr ⟨_, _, _, _, rfl, h⟩
  · exact h.elim
theorem pIA_mono {S : List MV} {k k' : Int32 → Nat → Nat → List MV → Prop} {q q' : Int32 → List MV → Prop} (h : ∀ i n c S, k i n c S → k' i n c S) (hq : ∀ i S, q i S → q' i S) : pIA S k q → pIA S k' q' := by
  unfold pIA
  split
  · exact h _ _ _ _
  · exact hq _ _
  · exact fun g => g
def pA (S : List MV) (k : Nat → Nat → List MV → Prop) (q : List MV → Prop) : Prop := match S with
  | .inr (.inr (.inl (1, n, c))) :: S => k n c S
  | .inr (.inr (.inl (3, _, _))) :: S => q S
  | _ => False
theorem pA_ex {S : List MV} {k : Nat → Nat → List MV → Prop} {q : List MV → Prop} (h : pA S k q) : (∃ n c S', S = .inr (.inr (.inl (1, n, c))) :: S' ∧ k n c S') ∨ ∃  z1 z2 S', S = .inr (.inr (.inl (3, z1, z2))) :: S' ∧ q S' := by
  unfold pA at h
  split at h
  · exact Or.inl ⟨_, _, _, rfl, h⟩
  · exact Or.inr ⟨_, _, _, rfl, h⟩
  · exact h.elim
theorem pA_mono {S : List MV} {k k' : Nat → Nat → List MV → Prop} {q q' : List MV → Prop} (h : ∀ n c S, k n c S → k' n c S) (hq : ∀ S, q S → q' S) : pA S k q → pA S k' q' := by
  unfold pA
  split
  · exact h _ _ _
  · exact hq _
  · exact fun g => g
def rI (S : List MV) (rk : Nat) (k kz : Int32 → Prop) : Prop := match S with
  | [.inl x] => bif Nat.beq rk 1 then k x else bif Nat.beq rk 4 then kz x else False
  | _ => False
theorem rI_ex {S : List MV} {rk : Nat} {k kz : Int32 → Prop} (h : rI S rk k kz) : ∃ x, S = [mI x] ∧ ((rk = 1 ∧ k x) ∨ (rk = 4 ∧ kz x)) := by
  unfold rI at h
  split at h
  · rename_i x
    refine ⟨x, rfl, ?_⟩
    cases h1 : Nat.beq rk 1 with
    | true => rw [h1] at h; exact Or.inl ⟨Nat.eq_of_beq_eq_true h1, h⟩
    | false =>
      rw [h1] at h
      cases h4 : Nat.beq rk 4 with
      | true => rw [h4] at h; exact Or.inr ⟨Nat.eq_of_beq_eq_true h4, h⟩
      | false => rw [h4] at h; exact h.elim
  · exact h.elim
theorem rI_mono {S : List MV} {rk : Nat} {k kz k' kz' : Int32 → Prop} (h : ∀ x, k x → k' x) (hz : ∀ x, kz x → kz' x) : rI S rk k kz → rI S rk k' kz' := by
  intro g
  obtain ⟨x, rfl, g2⟩ := rI_ex g
  rcases g2 with ⟨rfl, g3⟩ | ⟨rfl, g3⟩
  · exact h x g3
  · exact hz x g3
def rJ (S : List MV) (rk : Nat) (k : Int64 → Prop) : Prop := match S with
  | [.inr (.inl x)] => bif Nat.beq rk 2 then k x else False
  | _ => False
theorem rJ_ex {S : List MV} {rk : Nat} {k : Int64 → Prop} (h : rJ S rk k) : ∃ x, S = [mJ x] ∧ rk = 2 ∧ k x := by
  unfold rJ at h
  split at h
  · rename_i x
    cases h1 : Nat.beq rk 2 with
    | true => rw [h1] at h; exact ⟨x, rfl, Nat.eq_of_beq_eq_true h1, h⟩
    | false => rw [h1] at h; exact h.elim
  · exact h.elim
def rV (S : List MV) (rk : Nat) (k : Prop) : Prop := match S with
  | [] => bif Nat.beq rk 0 then k else False
  | _ => False
theorem rV_ex {S : List MV} {rk : Nat} {k : Prop} (h : rV S rk k) : S = [] ∧ rk = 0 ∧ k := by
  unfold rV at h
  split at h
  · cases h1 : Nat.beq rk 0 with
    | true => rw [h1] at h; exact ⟨rfl, Nat.eq_of_beq_eq_true h1, h⟩
    | false => rw [h1] at h; exact h.elim
  · exact h.elim
def rO (S : List MV) (rk rt : Nat) (k : Nat → Prop) : Prop := match S with
  | [.inr (.inr (.inl (0, t, c)))] => bif Nat.beq rk 3 && Nat.beq t rt then k c else False
  | _ => False
theorem rO_ex {S : List MV} {rk rt : Nat} {k : Nat → Prop} (h : rO S rk rt k) : ∃ c, S = [mO rt c] ∧ rk = 3 ∧ k c := by
  unfold rO at h
  split at h
  · rename_i t c
    cases h1 : (Nat.beq rk 3 && Nat.beq t rt) with
    | true =>
      rw [h1] at h
      simp only [Bool.and_eq_true] at h1
      exact ⟨c, by rw [Nat.eq_of_beq_eq_true h1.2], Nat.eq_of_beq_eq_true h1.1, h⟩
    | false => rw [h1] at h; exact h.elim
  · exact h.elim
theorem rJ_mono {S : List MV} {rk : Nat} {k k' : Int64 → Prop} (h : ∀ x, k x → k' x) : rJ S rk k → rJ S rk k' := by
  intro g
  obtain ⟨x, rfl, rfl, g2⟩ := rJ_ex g
  exact h x g2
theorem rV_mono {S : List MV} {rk : Nat} {k k' : Prop} (h : k → k') : rV S rk k → rV S rk k' := by
  intro g
  obtain ⟨rfl, rfl, g2⟩ := rV_ex g
  exact h g2
theorem rO_mono {S : List MV} {rk rt : Nat} {k k' : Nat → Prop} (h : ∀ c, k c → k' c) : rO S rk rt k → rO S rk rt k' := by
  intro g
  obtain ⟨c, rfl, rfl, g2⟩ := rO_ex g
  unfold rO
  have e : (Nat.beq 3 3 && Nat.beq rt rt) = true := by simp
  simp only [e, cond_true]
  exact h c g2
/-- a stored field -/
def ptF (f : Nat × Nat × Nat) (x : Int32) (k : Prop) : Prop := match f with
  | (0, _, _) => k
  | (1, _, _) => zb x ∧ k
  | _ => False
theorem ptF_ex {f : Nat × Nat × Nat} {x : Int32} {k : Prop} (h : ptF f x k) : (f.1 = 0 ∧ k) ∨ (f.1 = 1 ∧ zb x ∧ k) := by
  unfold ptF at h
  split at h
  · exact Or.inl ⟨rfl, h⟩
  · exact Or.inr ⟨rfl, h⟩
  · exact h.elim
theorem ptF_mono {f : Nat × Nat × Nat} {x : Int32} {k k' : Prop} (h : k → k') : ptF f x k → ptF f x k' := by
  unfold ptF
  split
  · exact h
  · exact fun g => ⟨g.1, h g.2⟩
  · exact fun g => g
section STP
variable (E : Ev) (K : MV → Mm → Prop) (P : Nat → List MV → List MV → Mm → Prop)
/-- what an instruction asks, so that P holds behind it -/
def opx (pc : Nat) (L S : List MV) (μ : Mm) (o : Ao) : Prop := match o with
  | (tag, v, w, a, b, _, J) => match tag / 8 with
    | 0 => match tag % 8 with
      | 0 => P (pc + 1) L (mI v :: S) μ
      | 1 => P (pc + 2) L (mI v :: S) μ
      | 2 => P (pc + 3) L (mI v :: S) μ
      | 3 => P (pc + 2) L (mI v :: S) μ
      | 4 => P (pc + 3) L (mI v :: S) μ
      | 5 => P (pc + 1) L (mJ w :: S) μ
      | 6 => P (pc + 3) L (mJ w :: S) μ
      | 7 => ldI L[a]? (fun x => P (pc + 1) L (mI x :: S) μ)
      | _ => False
    | 1 => match tag % 8 with
      | 0 => ldI L[a]? (fun x => P (pc + 2) L (mI x :: S) μ)
      | 1 => ldR L[a]? (fun x => P (pc + 1) L (.inr (.inr (.inl x)) :: S) μ)
      | 2 => ldR L[a]? (fun x => P (pc + 2) L (.inr (.inr (.inl x)) :: S) μ)
      | 3 => ldJ L[a]? (fun x => P (pc + 1) L (mJ x :: S) μ)
      | 4 => ldJ L[a]? (fun x => P (pc + 2) L (mJ x :: S) μ)
      | 5 => pI S (fun x S => P (pc + 1) (sto E.2.2.2.2.1 L a (mI x)) S μ)
      | 6 => pI S (fun x S => P (pc + 2) (sto E.2.2.2.2.1 L a (mI x)) S μ)
      | 7 => pR S (fun x S => P (pc + 1) (sto E.2.2.2.2.1 L a (.inr (.inr (.inl x)))) S μ)
      | _ => False
    | 2 => match tag % 8 with
      | 0 => pR S (fun x S => P (pc + 2) (sto E.2.2.2.2.1 L a (.inr (.inr (.inl x)))) S μ)
      | 1 => pJ S (fun x S => bif E.2.2.2.2.1 then P (pc + 1) ((sto true L a (mJ x)).set (a + 1) mU) S μ else False)
      | 2 => pJ S (fun x S => bif E.2.2.2.2.1 then P (pc + 2) ((sto true L a (mJ x)).set (a + 1) mU) S μ else False)
      | 3 => pII S (fun y x S => P (pc + 1) L (mI (x + y) :: S) μ)
      | 4 => pII S (fun y x S => P (pc + 1) L (mI (x - y) :: S) μ)
      | 5 => pII S (fun y x S => P (pc + 1) L (mI (x * y) :: S) μ)
      | 6 => pII S (fun y x S => ¬ y = 0 ∧ P (pc + 1) L (mI (x / y) :: S) μ)
      | 7 => pII S (fun y x S => ¬ y = 0 ∧ P (pc + 1) L (mI (x - x / y * y) :: S) μ)
      | _ => False
    | 3 => match tag % 8 with
      | 0 => pI S (fun x S => P (pc + 1) L (mI (-x) :: S) μ)
      | 1 => pII S (fun y x S => P (pc + 1) L (mI (x &&& y) :: S) μ)
      | 2 => pII S (fun y x S => P (pc + 1) L (mI (x ||| y) :: S) μ)
      | 3 => pII S (fun y x S => P (pc + 1) L (mI (x ^^^ y) :: S) μ)
      | 4 => pII S (fun y x S => P (pc + 1) L (mI (x <<< (y &&& 31)) :: S) μ)
      | 5 => pII S (fun y x S => P (pc + 1) L (mI (x >>> (y &&& 31)) :: S) μ)
      | 6 => pII S (fun y x S => P (pc + 1) L (mI ((x.toUInt32 >>> (y.toUInt32 &&& Int32.toUInt32 31)).toInt32) :: S) μ)
      | 7 => pJJ S (fun y x S => P (pc + 1) L (mJ (x + y) :: S) μ)
      | _ => False
    | 4 => match tag % 8 with
      | 0 => pJJ S (fun y x S => P (pc + 1) L (mJ (x * y) :: S) μ)
      | 1 => pJJ S (fun y x S => ¬ y = 0 ∧ P (pc + 1) L (mJ (x / y) :: S) μ)
      | 2 => pJJ S (fun y x S => ¬ y = 0 ∧ P (pc + 1) L (mJ (x - x / y * y) :: S) μ)
      | 3 => pJJ S (fun y x S => P (pc + 1) L (mI (lg_cmp x y) :: S) μ)
      | 4 => pI S (fun x S => P (pc + 1) L (mJ x.toInt64 :: S) μ)
      | 5 => pV S (fun v S => P (pc + 1) L (v :: v :: S) μ)
      | 6 => pIR S (fun x r S => P (pc + 1) L (.inl x :: .inr (.inr (.inl r)) :: .inl x :: .inr (.inr (.inl r)) :: S) μ)
      | 7 => ldI L[a]? (fun x => P (pc + 3) (sto E.2.2.2.2.1 L a (mI (x + v))) S μ)
      | _ => False
    | 5 => match tag % 8 with
      | 0 => P a L S μ
      | 1 => pI S (fun x S => if x = 0 then P a L S μ else P (pc + 3) L S μ)
      | 2 => pI S (fun x S => if x = 0 then P (pc + 3) L S μ else P a L S μ)
      | 3 => pI S (fun x S => if x < 0 then P a L S μ else P (pc + 3) L S μ)
      | 4 => pI S (fun x S => if 0 ≤ x then P a L S μ else P (pc + 3) L S μ)
      | 5 => pI S (fun x S => if 0 < x then P a L S μ else P (pc + 3) L S μ)
      | 6 => pI S (fun x S => if x ≤ 0 then P a L S μ else P (pc + 3) L S μ)
      | 7 => pII S (fun y x S => if x = y then P a L S μ else P (pc + 3) L S μ)
      | _ => False
    | 6 => match tag % 8 with
      | 0 => pII S (fun y x S => if x = y then P (pc + 3) L S μ else P a L S μ)
      | 1 => pII S (fun y x S => if x < y then P a L S μ else P (pc + 3) L S μ)
      | 2 => pII S (fun y x S => if y ≤ x then P a L S μ else P (pc + 3) L S μ)
      | 3 => pII S (fun y x S => if y < x then P a L S μ else P (pc + 3) L S μ)
      | 4 => pII S (fun y x S => if x ≤ y then P a L S μ else P (pc + 3) L S μ)
      | 5 => pR S (fun _ S => P (pc + 3) L S μ)
      | 6 => pR S (fun _ S => P a L S μ)
      | 7 => pO S (fun t c S => bif Nat.beq t (b / 32) then P (pc + 3) L (mF μ c (b % 32) (fo (b / 32) (b % 32)) :: S) μ else False)
      | _ => False
    | 7 => match tag % 8 with
      | 0 => pIO S (fun x t c S => bif Nat.beq t (b / 32) then ptF (fo (b / 32) (b % 32)) x (P (pc + 3) L S (mS μ c (b % 32) x)) else False)
      | 1 => pIA S (fun i n c S => vi i n ∧ P (pc + 1) L (mI (μ c i.toNatClampNeg) :: S) μ) (fun i S => vi i E.2.2.2.2.2.1 ∧ P (pc + 1) L (mI (E.2.2.2.2.2.2 i.toNatClampNeg) :: S) μ)
      | 2 => pIIA S (fun x i n c S => vi i n ∧ P (pc + 1) L S (mS μ c i.toNatClampNeg x))
      | 3 => pIZ S (fun i n c S => vi i n ∧ P (pc + 1) L (mI (μ c i.toNatClampNeg) :: S) μ)
      | 4 => pIIZ S (fun x i n c S => (zb x ∧ vi i n) ∧ P (pc + 1) L S (mS μ c i.toNatClampNeg x))
      | 5 => pA S (fun n _ S => P (pc + 1) L (mI (nI n) :: S) μ) (fun S => P (pc + 1) L (mI (nI E.2.2.2.2.2.1) :: S) μ)
      | 6 => cll (lk E.2.1 a) S μ (fun S μ => P (pc + 3) L S μ)
      | 7 => cll (lk E.2.1 a) S μ (fun S μ => P (pc + 3) L S μ)
      | _ => False
    | 8 => match tag % 8 with
      | 0 => rI S E.2.2.1 (fun x => K (mI x) μ) (fun x => zb x ∧ K (mI x) μ)
      | 1 => rJ S E.2.2.1 (fun x => K (mJ x) μ)
      | 2 => rV S E.2.2.1 (K mU μ)
      | 3 => rO S E.2.2.1 E.2.2.2.1 (fun c => K (mO E.2.2.2.1 c) μ)
      | 4 => pI S (fun x S => swt J a x (fun t => P t L S μ))
      | 5 => pI S (fun x S => swt J a x (fun t => P t L S μ))
      | 6 => pII S (fun y x S => bif Nat.ble (ctS S) 8 then P (pc + 3) L (mI (if y < x then y else x) :: S) μ else False)
      | 7 => pII S (fun y x S => bif Nat.ble (ctS S) 8 then P (pc + 3) L (mI (if x < y then y else x) :: S) μ else False)
      | _ => False
    | _ => False
def stp (pc : Nat) (L S : List MV) (μ : Mm) : Prop := match lk E.1 pc with
  | some o => opx E K P pc L S μ o
  | none => False
end STP
/-- from here the method ends with K -/
def Tot (E : Ev) (K : MV → Mm → Prop) (pc : Nat) (L S : List MV) (μ : Mm) : Prop := ∀ P : Nat → List MV → List MV → Mm → Prop, (∀ pc L S μ, stp E K P pc L S μ → P pc L S μ) → P pc L S μ
def ex (E : Ev) (cuts : List Nat) (K : MV → Mm → Prop) (F : Nat → List MV → List MV → Mm → Prop) : Nat → Nat → List MV → List MV → Mm → Prop
  | 0, _, _, _, _ => False
  | n + 1, pc, L, S, μ => stp E K (fun pc L S μ => bif cuts.elem pc then F pc L S μ else ex E cuts K F n pc L S μ) pc L S μ
def mono (sp : Sp) : Prop := ∀ (As : List MV) (μ : Mm) (K K' : MV → Mm → Prop), (∀ v μ, K v μ → K' v μ) → sp As μ K → sp As μ K'
def monoE (E : Ev) : Prop := ∀ a ce, lk E.2.1 a = some ce → mono ce.2.2.2.2
theorem ite_mono {c A B A' B' : Prop} {d : Decidable c} (h : A → A') (g : B → B') : (if c then A else B) → if c then A' else B' := by
  intro q
  split
  · rename_i e
    rw [if_pos e] at q
    exact h q
  · rename_i e
    rw [if_neg e] at q
    exact g q
theorem cnd_mono {b : Bool} {A A' : Prop} (h : A → A') : (bif b then A else False) → bif b then A' else False := by
  cases b
  · exact fun g => g
  · exact h
theorem swt_mono {J : List (Int32 × Nat)} {d : Nat} {x : Int32} {P P' : Nat → Prop} (h : ∀ t, P t → P' t) : swt J d x P → swt J d x P' := by
  induction J with
  | nil => exact h d
  | cons q r ih =>
    intro g
    unfold swt at g ⊢
    split
    · rename_i e
      rw [if_pos e] at g
      exact h _ g
    · rename_i e
      rw [if_neg e] at g
      exact ih g
theorem cll_mono {ce : Option Ce} (hm : ∀ c, ce = some c → mono c.2.2.2.2) {S : List MV} {μ : Mm} {k k' : List MV → Mm → Prop} (h : ∀ S μ, k S μ → k' S μ) : cll ce S μ k → cll ce S μ k' := by
  intro g
  match ce, hm, g with
  | some (n, kind, rt, rc, sp), hm, g =>
    unfold cll at g ⊢
    simp only at g ⊢
    cases hb : (Nat.ble n S.length && (Nat.ble (ctS (S.drop n)) 8 && (rck rc (S.take n).reverse && nq (S.take n)))) with
    | false => rw [hb] at g; exact g.elim
    | true =>
      rw [hb] at g
      refine hm _ rfl _ _ _ _ ?_ g
      intro v μ1
      unfold knd
      split <;> exact h _ _
  | none, _, g => exact g.elim
set_option maxHeartbeats 4000000 in
theorem opx_mono {E : Ev} (hm : monoE E) {K K' : MV → Mm → Prop} {P P' : Nat → List MV → List MV → Mm → Prop} (hK : ∀ v μ, K v μ → K' v μ) (hP : ∀ pc L S μ, P pc L S μ → P' pc L S μ) {pc : Nat} {L S : List MV} {μ : Mm} {o : Ao} : opx E K P pc L S μ o → opx E K' P' pc L S μ o := by
  obtain ⟨tag, v, w, a, b, c, J⟩ := o
  unfold opx
  simp only
  split <;> (try exact fun g => g.elim) <;> split
  all_goals first
    | exact fun g => g.elim
    | exact hP _ _ _ _
    | exact cll_mono (hm a) (fun _ _ => hP _ _ _ _)
    | exact ldI_mono (fun _ => hP _ _ _ _)
    | exact ldR_mono (fun _ => hP _ _ _ _)
    | exact ldJ_mono (fun _ => hP _ _ _ _)
    | exact pI_mono (fun _ _ => hP _ _ _ _)
    | exact pR_mono (fun _ _ => hP _ _ _ _)
    | exact pII_mono (fun _ _ _ => hP _ _ _ _)
    | exact pII_mono (fun _ _ _ g => ⟨g.1, hP _ _ _ _ g.2⟩)
    | exact pJJ_mono (fun _ _ _ => hP _ _ _ _)
    | exact pJJ_mono (fun _ _ _ g => ⟨g.1, hP _ _ _ _ g.2⟩)
    | exact pV_mono (fun _ _ => hP _ _ _ _)
    | exact pIR_mono (fun _ _ _ => hP _ _ _ _)
    | exact pIIA_mono (fun _ _ _ _ _ g => ⟨g.1, hP _ _ _ _ g.2⟩)
    | exact pIZ_mono (fun _ _ _ _ g => ⟨g.1, hP _ _ _ _ g.2⟩)
    | exact pIIZ_mono (fun _ _ _ _ _ g => ⟨g.1, hP _ _ _ _ g.2⟩)
    | exact pIA_mono (fun _ _ _ _ g => ⟨g.1, hP _ _ _ _ g.2⟩) (fun _ _ g => ⟨g.1, hP _ _ _ _ g.2⟩)
    | exact pA_mono (fun _ _ _ => hP _ _ _ _) (fun _ => hP _ _ _ _)
    | exact rI_mono (fun _ => hK _ _) (fun _ g => ⟨g.1, hK _ _ g.2⟩)
    | exact rJ_mono (fun _ => hK _ _)
    | exact rV_mono (hK _ _)
    | exact rO_mono (fun _ => hK _ _)
    | exact pI_mono (fun _ _ => swt_mono (fun _ => hP _ _ _ _))
    | exact pI_mono (fun _ _ => ite_mono (hP _ _ _ _) (hP _ _ _ _))
    | exact pII_mono (fun _ _ _ => ite_mono (hP _ _ _ _) (hP _ _ _ _))
    | exact pJ_mono (fun _ _ => cnd_mono (hP _ _ _ _))
    | exact pII_mono (fun _ _ _ => cnd_mono (hP _ _ _ _))
    | exact pO_mono (fun _ _ _ => cnd_mono (hP _ _ _ _))
    | exact pIO_mono (fun _ _ _ _ => cnd_mono (ptF_mono (hP _ _ _ _)))
theorem stp_mono {E : Ev} (hm : monoE E) {K K' : MV → Mm → Prop} {P P' : Nat → List MV → List MV → Mm → Prop} (hK : ∀ v μ, K v μ → K' v μ) (hP : ∀ pc L S μ, P pc L S μ → P' pc L S μ) {pc : Nat} {L S : List MV} {μ : Mm} : stp E K P pc L S μ → stp E K' P' pc L S μ := by
  unfold stp
  cases lk E.1 pc with
  | none => exact fun g => g
  | some o => exact opx_mono hm hK hP
theorem Tot.step {E : Ev} (hm : monoE E) {K : MV → Mm → Prop} {pc : Nat} {L S : List MV} {μ : Mm} (h : stp E K (Tot E K) pc L S μ) : Tot E K pc L S μ := fun P hP => hP _ _ _ _ (stp_mono hm (fun _ _ g => g) (fun pc L S μ g => g P hP) h)
theorem Tot.mono {E : Ev} (hm : monoE E) {K K' : MV → Mm → Prop} (hK : ∀ v μ, K v μ → K' v μ) {pc : Nat} {L S : List MV} {μ : Mm} (h : Tot E K pc L S μ) : Tot E K' pc L S μ := fun P hP => h P (fun _ _ _ _ g => hP _ _ _ _ (stp_mono hm hK (fun _ _ _ _ q => q) g))
/-- a stretch of code, up to the cuts -/
theorem seg {E : Ev} (hm : monoE E) {K : MV → Mm → Prop} (cuts : List Nat) (n : Nat) {pc : Nat} {L S : List MV} {μ : Mm} (h : ex E cuts K (Tot E K) n pc L S μ) : Tot E K pc L S μ := by
  induction n generalizing pc L S μ with
  | zero => exact h.elim
  | succ n ih =>
    refine Tot.step hm (stp_mono hm (fun _ _ g => g) ?_ h)
    intro pc L S μ g
    cases hc : cuts.elem pc with
    | true => rw [hc] at g; exact g
    | false => rw [hc] at g; exact ih g
def en : List MV → Nat → List MV
  | [], n => List.replicate n mU
  | .inr (.inl x) :: vs, n => mJ x :: mU :: en vs (n - 2)
  | v :: vs, n => v :: en vs (n - 1)
def nJ : List MV → Bool
  | [] => true
  | .inr (.inl _) :: _ => false
  | _ :: S => nJ S
/-- what a method does: run it from its first instruction -/
def spc (E : Ev) (nL : Nat) : Sp := fun As μ K => bif Nat.ble (ctS As) nL && (E.2.2.2.2.1 || nJ As) then Tot E K 0 (en As nL) [] μ else False
theorem spc_mono {E : Ev} (hm : monoE E) (nL : Nat) : mono (spc E nL) := fun _ _ _ _ hK h => cnd_mono (Tot.mono hm hK) h
end
section
/-! ===== the small machine is the machine: locals, world, one instruction ===== -/
def toL (ad : Nat → Nat) (b : Nat) : Nat → List MV → List (Nat × Value)
  | _, [] => []
  | i, v :: vs => match v with
    | .inr (.inr (.inr _)) => toL ad b (i + 1) vs
    | v => (i, tv ad b v) :: toL ad b (i + 1) vs
theorem toL_of {ad : Nat → Nat} {b : Nat} : ∀ (L : List MV) (i k : Nat) (v : MV), L[k]? = some v → v ≠ mU → (i + k, tv ad b v) ∈ toL ad b i L := by
  intro L
  induction L with
  | nil => intro i k v h; simp at h
  | cons x L ih =>
    intro i k v h hv
    unfold toL
    cases k with
    | zero =>
      simp at h
      subst h
      split
      · exact absurd rfl hv
      · exact List.mem_cons_self
    | succ k =>
      have h1 := ih (i + 1) k v (by simpa using h) hv
      have e : i + 1 + k = i + (k + 1) := by omega
      rw [e] at h1
      split
      · exact h1
      · exact List.mem_cons_of_mem _ h1
theorem of_toL {ad : Nat → Nat} {b : Nat} : ∀ (L : List MV) (i : Nat) (q : Nat × Value), q ∈ toL ad b i L → ∃ k v, L[k]? = some v ∧ v ≠ mU ∧ q = (i + k, tv ad b v) := by
  intro L
  induction L with
  | nil => intro i q h; cases h
  | cons x L ih =>
    intro i q h
    unfold toL at h
    split at h
    · obtain ⟨k, v, h1, h2, h3⟩ := ih _ _ h
      exact ⟨k + 1, v, by simpa using h1, h2, by rw [h3]; congr 1; omega⟩
    · rename_i hx
      rcases List.mem_cons.mp h with h | h
      · exact ⟨0, x, rfl, fun e => hx _ e, by rw [h]; rfl⟩
      · obtain ⟨k, v, h1, h2, h3⟩ := ih _ _ h
        exact ⟨k + 1, v, by simpa using h1, h2, by rw [h3]; congr 1; omega⟩
def lR (ad : Nat → Nat) (b nL : Nat) (lg : Bool) (ls : Array Slot) (L : List MV) : Prop :=
  lv_has ls nL (toL ad b 0 L) ∧ L.length = nL ∧ (lg = false → ∀ (i : Nat) (x : Int64), L[i]? ≠ some (mJ x))
theorem lR.at {ad : Nat → Nat} {b nL : Nat} {lg : Bool} {ls : Array Slot} {L : List MV} (h : lR ad b nL lg ls L) {i : Nat} {v : MV} (hi : L[i]? = some v) (hv : v ≠ mU) : ls[i]? = some (.val (tv ad b v)) := by
  have h1 := h.1.2.2 _ (toL_of (ad := ad) (b := b) L 0 i v hi hv)
  simpa using h1
theorem tv_cat {ad : Nat → Nat} {b : Nat} {v : MV} (h : ∀ x, v ≠ mJ x) : (tv ad b v).category = 1 := by
  match v, h with
  | .inl x, _ => rfl
  | .inr (.inl x), h => exact absurd rfl (h x)
  | .inr (.inr (.inl (k, t, c))), _ =>
    unfold tv
    simp only
    split <;> rfl
  | .inr (.inr (.inr _)), _ => rfl
theorem clr_len (L : List MV) (a : Nat) : (clr L a).length = L.length := by
  unfold clr
  split
  · rfl
  · split <;> simp
theorem sto_len (lg : Bool) (L : List MV) (a : Nat) (v : MV) : (sto lg L a v).length = L.length := by
  cases lg <;> simp [sto, clr_len]
theorem clr_get {L : List MV} {a j : Nat} {w : MV} (h : (clr L a)[j]? = some w) (hw : w ≠ mU) : L[j]? = some w ∧ (j + 1 = a → ∀ x, w ≠ mJ x) := by
  unfold clr at h
  split at h
  · exact ⟨h, fun e => by omega⟩
  · rename_i a'
    split at h
    · rename_i x hx
      by_cases e : a' = j
      · subst e
        rw [List.getElem?_set_self (List.getElem?_eq_some_iff.mp hx).1] at h
        exact absurd (Option.some.inj h).symm hw
      · rw [List.getElem?_set_ne e] at h
        exact ⟨h, fun e2 => absurd (by omega) e⟩
    · rename_i hx
      refine ⟨h, fun e2 x e3 => ?_⟩
      have e4 : a' = j := by omega
      subst e4; subst e3
      exact hx x h
theorem sto_get {lg : Bool} {L : List MV} {a j : Nat} {v w : MV} (hj : j ≠ a) (h : (sto lg L a v)[j]? = some w) (hw : w ≠ mU) : L[j]? = some w ∧ (lg = true → j + 1 = a → ∀ x, w ≠ mJ x) := by
  cases lg with
  | false =>
    unfold sto at h
    rw [cond_false, List.getElem?_set_ne (fun e => hj e.symm)] at h
    exact ⟨h, fun e => by cases e⟩
  | true =>
    unfold sto at h
    rw [cond_true, List.getElem?_set_ne (fun e => hj e.symm)] at h
    exact ⟨(clr_get h hw).1, fun _ => (clr_get h hw).2⟩
theorem sto_at {lg : Bool} {L : List MV} {a : Nat} {v : MV} (h : a < L.length) : (sto lg L a v)[a]? = some v := by
  cases lg with
  | false => unfold sto; rw [cond_false, List.getElem?_set_self h]
  | true => unfold sto; rw [cond_true, List.getElem?_set_self (by rw [clr_len]; exact h)]
theorem sto_wt {sc : Bool} {lg : Bool} {L : List MV} {a : Nat} {v : MV} (h : ∀ w ∈ L, wtv sc w) (hv : wtv sc v) : ∀ w ∈ sto lg L a v, wtv sc w := by
  intro w hw
  by_cases e : w = mU
  · subst e; trivial
  obtain ⟨j, hj⟩ := List.getElem?_of_mem hw
  by_cases hja : j = a
  · subst hja
    have hl : j < (sto lg L j v).length := (List.getElem?_eq_some_iff.mp hj).1
    rw [sto_len] at hl
    rw [sto_at hl] at hj
    rw [← Option.some.inj hj]; exact hv
  · exact h w (List.mem_of_getElem? (sto_get hja hj e).1)
theorem lR.sto1 {ad : Nat → Nat} {b nL : Nat} {lg : Bool} {ls ls' : Array Slot} {L : List MV} {a : Nat} {v : MV} (h : lR ad b nL lg ls L) (ha : a < nL) (hv : v ≠ mU) (hJ : ∀ x, v ≠ mJ x)
    (h' : lv_has ls' nL ((a, tv ad b v) :: (toL ad b 0 L).filter (fun q => !(q.1 == a) && !(q.1 + 1 == a && q.2.category == 2)))) : lR ad b nL lg ls' (sto lg L a v) := by
  refine ⟨⟨h'.1, h'.2.1, fun q hq => ?_⟩, by rw [sto_len]; exact h.2.1, fun e i x hx => ?_⟩
  · obtain ⟨k, w, h1, h2, rfl⟩ := of_toL _ _ _ hq
    simp only [Nat.zero_add]
    by_cases hk : k = a
    · subst hk
      rw [sto_at (by rw [h.2.1]; exact ha)] at h1
      rw [← Option.some.inj h1]
      exact h'.2.2 _ List.mem_cons_self
    · obtain ⟨g1, g2⟩ := sto_get hk h1 h2
      refine h'.2.2 (k, tv ad b w) (List.mem_cons_of_mem _ (List.mem_filter.mpr ⟨by simpa using toL_of (ad := ad) (b := b) L 0 k w g1 h2, ?_⟩))
      have hc : k + 1 = a → (tv ad b w).category = 1 := by
        intro e
        refine tv_cat ?_
        cases lg with
        | false => exact fun x hx => h.2.2 rfl k x (by rw [g1, hx])
        | true => exact g2 rfl e
      simp only [Bool.and_eq_true, Bool.not_eq_true', beq_eq_false_iff_ne, ne_eq]
      refine ⟨hk, ?_⟩
      cases hz : (k + 1 == a) with
      | false => rfl
      | true =>
        rw [hc (by simpa using hz)]; rfl
  · by_cases hi : i = a
    · subst hi
      rw [sto_at (by rw [h.2.1]; exact ha)] at hx
      exact hJ x (Option.some.inj hx)
    · exact h.2.2 e i x (sto_get hi hx (by intro e; cases e)).1
theorem lR.sto2 {ad : Nat → Nat} {b nL : Nat} {ls ls' : Array Slot} {L : List MV} {a : Nat} {x : Int64} (h : lR ad b nL true ls L) (ha : a + 1 < nL)
    (h' : lv_has ls' nL ((a, .long x) :: (toL ad b 0 L).filter (fun q => !(q.1 == a) && (!(q.1 == a + 1) && !(q.1 + 1 == a && q.2.category == 2))))) : lR ad b nL true ls' ((sto true L a (mJ x)).set (a + 1) mU) := by
  refine ⟨⟨h'.1, h'.2.1, fun q hq => ?_⟩, by rw [List.length_set, sto_len]; exact h.2.1, fun e => by cases e⟩
  obtain ⟨k, w, h1, h2, rfl⟩ := of_toL _ _ _ hq
  simp only [Nat.zero_add]
  by_cases hk1 : a + 1 = k
  · subst hk1
    rw [List.getElem?_set_self (by rw [sto_len, h.2.1]; exact ha)] at h1
    exact absurd (Option.some.inj h1).symm h2
  rw [List.getElem?_set_ne hk1] at h1
  by_cases hk : k = a
  · subst hk
    rw [sto_at (by rw [h.2.1]; omega)] at h1
    rw [← Option.some.inj h1]
    exact h'.2.2 _ List.mem_cons_self
  · obtain ⟨g1, g2⟩ := sto_get hk h1 h2
    refine h'.2.2 (k, tv ad b w) (List.mem_cons_of_mem _ (List.mem_filter.mpr ⟨by simpa using toL_of (ad := ad) (b := b) L 0 k w g1 h2, ?_⟩))
    simp only [Bool.and_eq_true, Bool.not_eq_true', beq_eq_false_iff_ne, ne_eq]
    refine ⟨hk, fun e => hk1 e.symm, ?_⟩
    cases hz : (k + 1 == a) with
    | false => rfl
    | true =>
      rw [tv_cat (g2 rfl (by simpa using hz))]; rfl
-- the world
theorem wl_get {ad : Nat → Nat} {cI cB : Nat} {μ : Mm} {k : Nat} {q : Nat × Nat} (h : lyL[k]? = some q) : (wl ad cI cB μ)[k]? = some (ad k, cE ad cI cB μ k q) := by
  unfold wl
  rw [List.getElem?_mapIdx, h]
  rfl
theorem wl_inv {ad : Nat → Nat} {cI cB : Nat} {μ : Mm} {k : Nat} {x : Nat × va_E} (h : (wl ad cI cB μ)[k]? = some x) : ∃ q, lyL[k]? = some q ∧ x = (ad k, cE ad cI cB μ k q) := by
  unfold wl at h
  rw [List.getElem?_mapIdx] at h
  cases hq : lyL[k]? with
  | none => rw [hq] at h; cases h
  | some q => rw [hq] at h; exact ⟨q, rfl, (Option.some.inj h).symm⟩
theorem wl_D {A : Nat → Prop} {ad : Nat → Nat} {cI cB : Nat} {μ : Mm} (h : va_D A (wl ad cI cB μ)) (μ' : Mm) : va_D A (wl ad cI cB μ') := by
  refine ⟨fun i j p q hi hj e => ?_, fun k q hk => ?_⟩
  · obtain ⟨x, h1, rfl⟩ := wl_inv hi
    obtain ⟨y, h2, rfl⟩ := wl_inv hj
    exact h.1 i j _ _ (wl_get h1) (wl_get h2) e
  · obtain ⟨x, h1, rfl⟩ := wl_inv hk
    exact h.2 k (ad k, cE ad cI cB μ k x) (wl_get h1)
theorem mS_ne {μ : Mm} {c k : Nat} {x : Int32} {c' k' : Nat} (h : ¬ (c' = c ∧ k' = k)) : mS μ c k x c' k' = μ c' k' := if_neg h
theorem mS_eq {μ : Mm} {c k : Nat} {x : Int32} : mS μ c k x c k = x := if_pos ⟨rfl, rfl⟩
theorem mF_ne {ad : Nat → Nat} {b : Nat} {μ : Mm} {c k : Nat} {x : Int32} {c' k' : Nat} (h : ¬ (c' = c ∧ k' = k)) (f : Nat × Nat × Nat) : tv ad b (mF (mS μ c k x) c' k' f) = tv ad b (mF μ c' k' f) := by
  unfold mF
  split <;> first | rfl | (rw [mS_ne h])
theorem cE_ne {ad : Nat → Nat} {cI cB : Nat} {μ : Mm} {c k : Nat} {x : Int32} {c' : Nat} (h : c' ≠ c) (q : Nat × Nat) : cE ad cI cB (mS μ c k x) c' q = cE ad cI cB μ c' q := by
  have e : ∀ k', mS μ c k x c' k' = μ c' k' := fun k' => mS_ne (fun z => h z.1)
  have e2 : mS μ c k x c' = μ c' := funext e
  unfold cE
  rw [e2]
  have e3 : (fun (k' : Nat) (f : Nat × Nat × Nat) => tv ad 0 (mF (mS μ c k x) c' k' f)) = (fun k' f => tv ad 0 (mF μ c' k' f)) := by
    funext k' f
    exact mF_ne (fun z => h z.1) f
  rw [e3]
theorem wl_set {ad : Nat → Nat} {cI cB : Nat} {μ : Mm} {c k : Nat} {x : Int32} {q : Nat × Nat} {v : va_E} (h : lyL[c]? = some q) (hv : v = cE ad cI cB (mS μ c k x) c q) : (wl ad cI cB μ).set c (ad c, v) = wl ad cI cB (mS μ c k x) := by
  apply List.ext_getElem?
  intro i
  by_cases hi : c = i
  · subst hi
    rw [wl_get h, List.getElem?_set_self (List.getElem?_eq_some_iff.mp (wl_get (ad := ad) (cI := cI) (cB := cB) (μ := μ) h)).1, hv]
  · rw [List.getElem?_set_ne hi]
    unfold wl
    rw [List.getElem?_mapIdx, List.getElem?_mapIdx]
    cases lyL[i]? with
    | none => rfl
    | some y => show some (ad i, _) = some (ad i, _); rw [cE_ne (fun e => hi e.symm)]
theorem upd_mS (μ : Mm) (c i : Nat) (x : Int32) : upd (μ c) i x = mS μ c i x c := by
  funext j
  unfold upd mS
  by_cases h : j = i
  · rw [if_pos h, if_pos ⟨rfl, h⟩]
  · rw [if_neg h, if_neg (fun z => h z.2)]
def fsO (ad : Nat → Nat) (μ : Mm) (c t : Nat) : List Value := (foL.getD t []).mapIdx (fun k f => tv ad 0 (mF μ c k f))
theorem fs_get {ad : Nat → Nat} {μ : Mm} {c t k : Nat} (h : k < (foL.getD t []).length) : (fsO ad μ c t)[k]? = some (tv ad 0 (mF μ c k (fo t k))) := by
  unfold fsO fo
  rw [List.getElem?_mapIdx, List.getElem?_eq_getElem h]
  show some _ = some _
  rw [List.getD_eq_getElem?_getD (l := foL.getD t []), List.getElem?_eq_getElem h]
  rfl
theorem fs_set {ad : Nat → Nat} {μ : Mm} {c t k : Nat} {x : Int32} (h : k < (foL.getD t []).length) (hk : (fo t k).1 = 0 ∨ (fo t k).1 = 1) : (fsO ad μ c t).set k (.int x) = fsO ad (mS μ c k x) c t := by
  apply List.ext_getElem?
  intro i
  by_cases hi : k = i
  · subst hi
    rw [fs_get h, List.getElem?_set_self (by unfold fsO; rw [List.length_mapIdx]; exact h)]
    generalize hy : fo t k = y at hk ⊢
    obtain ⟨y0, y1, y2⟩ := y
    rcases hk with e | e <;> (simp only at e; subst e; show some (Value.int x) = some (.int (mS μ c k x c k)); rw [mS_eq])
  · rw [List.getElem?_set_ne hi]
    unfold fsO
    rw [List.getElem?_mapIdx, List.getElem?_mapIdx]
    cases (foL.getD t [])[i]? with
    | none => rfl
    | some y => show some (tv ad 0 (mF μ c i y)) = some (tv ad 0 (mF (mS μ c k x) c i y)); rw [mF_ne (fun z => hi z.2.symm)]
def layB : Bool := (List.range 72).all (fun c => match lyL.getD c (99, 0) with
  | (t, _) => bif Nat.blt t 20 then (List.range (foL.getD t []).length).all (fun k => match fo t k with
    | (2, off, t') => decide (lyL[c + off]? = some (t', 0)) && Nat.blt t' 10
    | (3, off, n) => decide (lyL[c + off]? = some (20, n))
    | (4, off, n) => decide (lyL[c + off]? = some (21, n))
    | (0, _, _) => true
    | (1, _, _) => true
    | _ => false) else true)
theorem layB_ok : layB = true := by decide +kernel
theorem lay_wt {sc : Bool} {μ : Mm} {t c k : Nat} (h : lyL[c]? = some (t, 0)) (ht : t < 10) (hk : k < (foL.getD t []).length) : wtv sc (mF μ c k (fo t k)) := by
  have hc : c < 72 := (List.getElem?_eq_some_iff.mp h).1
  have h1 := List.all_eq_true.mp layB_ok c (List.mem_range.mpr hc)
  rw [List.getD_eq_getElem?_getD, h] at h1
  have hb : Nat.blt t 20 = true := by simp [Nat.blt_eq]; omega
  simp only [Option.getD_some, hb, cond_true] at h1
  have h2 := List.all_eq_true.mp h1 k (List.mem_range.mpr hk)
  generalize hy : fo t k = y at h2 ⊢
  obtain ⟨y0, y1, y2⟩ := y
  match y0, h2 with
  | 0, _ => exact trivial
  | 1, _ => exact trivial
  | 2, h2 =>
    simp only [Bool.and_eq_true, decide_eq_true_eq, Nat.blt_eq] at h2
    exact h2
  | 3, h2 =>
    simp only [decide_eq_true_eq] at h2
    exact h2
  | 4, h2 =>
    simp only [decide_eq_true_eq] at h2
    exact ⟨rfl, h2⟩
  | n + 5, h2 => cases h2
theorem tv_mF {ad : Nat → Nat} {b : Nat} {μ : Mm} {c k : Nat} (f : Nat × Nat × Nat) : tv ad b (mF μ c k f) = tv ad 0 (mF μ c k f) := by
  unfold mF
  split <;> rfl
-- the tables' words that every method takes
def lw_g : List Cond := lw_tbl.filter goodWord
theorem mem_g {w : Cond} {i : Nat} (h : lw_tbl[i]? = some w) (hg : goodWord w = true) : w ∈ lw_g := List.mem_filter.mpr ⟨List.mem_of_getElem? h, hg⟩
theorem good_g : ∀ w ∈ lw_g, (w.onTables && w.keeps) = true ∨ ∃ ty, w = .arrayClass ty := fun _ h => good_of_word (List.mem_filter.mp h).2
theorem in_g {ws : List Cond} (h : ws.all (fun w => decide (w ∈ lw_tbl) && goodWord w) = true) : ∀ w ∈ ws, w ∈ lw_g := by
  intro w hw
  have h1 := List.all_eq_true.mp h w hw
  simp only [Bool.and_eq_true, decide_eq_true_eq] at h1
  exact List.mem_filter.mpr h1
-- the classes
def clsOK (ci : Nat) (C : String) (T : u_T) (N : Nat) : Prop := ∃ ty0 : Nat → FieldType, (∀ w ∈ u_ws C T N, w ∈ lw_g) ∧ (∀ k, k < N → parseFieldDescriptor (T k).2.2.1 = some (ty0 k)) ∧ (∀ a, a < N → ∀ b, b < N → a ≠ b → (T a).2.1 ≠ (T b).2.1) ∧ (foL.getD ci []).length = N ∧ ∀ k, k < N → ((fo ci k).1 = 0 → ty0 k = .int ∧ (T k).2.2.2 = false) ∧ ((fo ci k).1 = 1 → ty0 k = .boolean ∧ (T k).2.2.2 = false)
theorem iX0 : ∀ w ∈ wsX00, w ∈ lw_g := in_g (by decide +kernel)
theorem iX1 : ∀ w ∈ wsX10, w ∈ lw_g := in_g (by decide +kernel)
theorem iX2 : ∀ w ∈ wsX20, w ∈ lw_g := in_g (by decide +kernel)
theorem iX3 : ∀ w ∈ wsX30, w ∈ lw_g := in_g (by decide +kernel)
theorem iX4 : ∀ w ∈ wsX40, w ∈ lw_g := in_g (by decide +kernel)
theorem iX6 : ∀ w ∈ wsX60, w ∈ lw_g := in_g (by decide +kernel)
theorem iX7 : ∀ w ∈ wsX70, w ∈ lw_g := in_g (by decide +kernel)
theorem iX8 : ∀ w ∈ wsX80, w ∈ lw_g := in_g (by decide +kernel)
theorem iX9 : ∀ w ∈ wsX90, w ∈ lw_g := in_g (by decide +kernel)
theorem iX10 : ∀ w ∈ wsX100, w ∈ lw_g := in_g (by decide +kernel)
theorem cls_ok : ∀ (ci : Nat) (q : vw_C), vwCl[ci]? = some q → clsOK ci q.1 q.2.1 q.2.2
  | 0, _, rfl => ⟨tyX0, iX0, tyX0_ok, nmX0, rfl, by decide +kernel⟩
  | 1, _, rfl => ⟨tyX1, iX1, tyX1_ok, nmX1, rfl, by decide +kernel⟩
  | 2, _, rfl => ⟨tyX2, iX2, tyX2_ok, nmX2, rfl, by decide +kernel⟩
  | 3, _, rfl => ⟨tyX3, iX3, tyX3_ok, nmX3, rfl, by decide +kernel⟩
  | 4, _, rfl => ⟨tyX4, iX4, tyX4_ok, nmX4, rfl, by decide +kernel⟩
  | 5, _, rfl => ⟨tyX6, iX6, tyX6_ok, nmX6, rfl, by decide +kernel⟩
  | 6, _, rfl => ⟨tyX7, iX7, tyX7_ok, nmX7, rfl, by decide +kernel⟩
  | 7, _, rfl => ⟨tyX8, iX8, tyX8_ok, nmX8, rfl, by decide +kernel⟩
  | 8, _, rfl => ⟨tyX9, iX9, tyX9_ok, nmX9, rfl, by decide +kernel⟩
  | 9, _, rfl => ⟨tyX10, iX10, tyX10_ok, nmX10, rfl, by decide +kernel⟩
  | n + 10, _, h => by simp [vwCl] at h
/-- the two links to a private method of a nest mate -/
def y_within : MethodName := ⟨RX9, "within", "(III)Z"⟩
def nst (U : State) : Prop := va_Nw (.methodLinkNest RX3 40 y_within RX9) U ∧ va_Nw (.methodLinkNest RX8 73 y_within RX9) U
theorem nst.warm {s U : State} (hW : s.WarmedH U.vm) (h : nst s) : nst U := ⟨va_Nw.warmM hW h.1, va_Nw.warmM hW h.2⟩
theorem nst.same {u U : State} (e : u.vm = U.vm) (h : nst u) : nst U := ⟨va_Nw.same rfl e h.1, va_Nw.same rfl e h.2⟩
theorem nst_of {args : Array Value} {s : State} (hts : ∀ w ∈ lw_tbl, w.before args s = true) : nst s := ⟨va_Nw.of rfl (hts _ (by decide +kernel)), va_Nw.of rfl (hts _ (by decide +kernel))⟩
end
section
/-! ===== what an instruction of the small machine stands for; contracts; one instruction is sound ===== -/
def dcc (pc : Nat) (o : Ao) : Instr × Nat := match o with
  | (tag, v, w, a, _, _, J) => match tag / 8 with
    | 0 => match tag % 8 with
      | 0 => (.iconst v.toInt, 1)
      | 1 => (.bipush v.toInt, 2)
      | 2 => (.sipush v.toInt, 3)
      | 3 => (.ldc a, 2)
      | 4 => (.ldc_w a, 3)
      | 5 => (.lconst (if w = 0 then 0 else 1), 1)
      | 6 => (.ldc2_w a, 3)
      | 7 => (.iload_n (Fin.ofNat 4 a), 1)
      | _ => (.nop, 0)
    | 1 => match tag % 8 with
      | 0 => (.iload a, 2)
      | 1 => (.aload_n (Fin.ofNat 4 a), 1)
      | 2 => (.aload a, 2)
      | 3 => (.lload_n (Fin.ofNat 4 a), 1)
      | 4 => (.lload a, 2)
      | 5 => (.istore_n (Fin.ofNat 4 a), 1)
      | 6 => (.istore a, 2)
      | 7 => (.astore_n (Fin.ofNat 4 a), 1)
      | _ => (.nop, 0)
    | 2 => match tag % 8 with
      | 0 => (.astore a, 2)
      | 1 => (.lstore_n (Fin.ofNat 4 a), 1)
      | 2 => (.lstore a, 2)
      | 3 => (.iadd, 1)
      | 4 => (.isub, 1)
      | 5 => (.imul, 1)
      | 6 => (.idiv, 1)
      | 7 => (.irem, 1)
      | _ => (.nop, 0)
    | 3 => match tag % 8 with
      | 0 => (.ineg, 1)
      | 1 => (.iand, 1)
      | 2 => (.ior, 1)
      | 3 => (.ixor, 1)
      | 4 => (.ishl, 1)
      | 5 => (.ishr, 1)
      | 6 => (.iushr, 1)
      | 7 => (.ladd, 1)
      | _ => (.nop, 0)
    | 4 => match tag % 8 with
      | 0 => (.lmul, 1)
      | 1 => (.ldiv, 1)
      | 2 => (.lrem, 1)
      | 3 => (.lcmp, 1)
      | 4 => (.i2l, 1)
      | 5 => (.dup, 1)
      | 6 => (.dup2, 1)
      | 7 => (.iinc a v.toInt, 3)
      | _ => (.nop, 0)
    | 5 => match tag % 8 with
      | 0 => (.goto ((a : Int) - pc), 3)
      | 1 => (.ifCond .eq ((a : Int) - pc), 3)
      | 2 => (.ifCond .ne ((a : Int) - pc), 3)
      | 3 => (.ifCond .lt ((a : Int) - pc), 3)
      | 4 => (.ifCond .ge ((a : Int) - pc), 3)
      | 5 => (.ifCond .gt ((a : Int) - pc), 3)
      | 6 => (.ifCond .le ((a : Int) - pc), 3)
      | 7 => (.if_icmp .eq ((a : Int) - pc), 3)
      | _ => (.nop, 0)
    | 6 => match tag % 8 with
      | 0 => (.if_icmp .ne ((a : Int) - pc), 3)
      | 1 => (.if_icmp .lt ((a : Int) - pc), 3)
      | 2 => (.if_icmp .ge ((a : Int) - pc), 3)
      | 3 => (.if_icmp .gt ((a : Int) - pc), 3)
      | 4 => (.if_icmp .le ((a : Int) - pc), 3)
      | 5 => (.ifnull ((a : Int) - pc), 3)
      | 6 => (.ifnonnull ((a : Int) - pc), 3)
      | 7 => (.getfield a, 3)
      | _ => (.nop, 0)
    | 7 => match tag % 8 with
      | 0 => (.putfield a, 3)
      | 1 => (.iaload, 1)
      | 2 => (.iastore, 1)
      | 3 => (.baload, 1)
      | 4 => (.bastore, 1)
      | 5 => (.arraylength, 1)
      | 6 => (.invokevirtual a, 3)
      | 7 => (.invokestatic a, 3)
      | _ => (.nop, 0)
    | 8 => match tag % 8 with
      | 0 => (.ireturn, 1)
      | 1 => (.lreturn, 1)
      | 2 => (.return_, 1)
      | 3 => (.areturn, 1)
      | 4 => (.tableswitch ((a : Int) - pc) (J.headD (0, 0)).1.toInt ((J.headD (0, 0)).1.toInt + J.length - 1) (J.map (fun q => (q.2 : Int) - pc)).toArray, 1 + (3 - pc % 4) + 12 + 4 * J.length)
      | 5 => (.lookupswitch ((a : Int) - pc) (J.map (fun q => (q.1.toInt, (q.2 : Int) - pc))).toArray, 1 + (3 - pc % 4) + 8 + 8 * J.length)
      | 6 => (.invokestatic a, 3)
      | 7 => (.invokestatic a, 3)
      | _ => (.nop, 0)
    | _ => (.nop, 0)
def srt : List (Int32 × Nat) → Bool
  | q :: r :: J => decide (q.1.toInt < r.1.toInt) && srt (r :: J)
  | _ => true
def sfld (own : String) (a b c : Nat) : Bool := match vwCl[b / 32]? with
  | some q => decide (b % 32 < q.2.2) && decide (lw_tbl[c]? = some (.fieldLink own a (q.2.1 (b % 32)).1 (q.2.1 (b % 32)).2.1 (q.2.1 (b % 32)).2.2.1))
  | none => false
theorem sfld_ex {own : String} {a b c : Nat} (h : sfld own a b c = true) : ∃ q, vwCl[b / 32]? = some q ∧ b % 32 < q.2.2 ∧ lw_tbl[c]? = some (.fieldLink own a (q.2.1 (b % 32)).1 (q.2.1 (b % 32)).2.1 (q.2.1 (b % 32)).2.2.1) := by
  unfold sfld at h
  split at h
  · rename_i q hq
    simp only [Bool.and_eq_true, decide_eq_true_eq] at h
    exact ⟨q, hq, h.1, h.2⟩
  · cases h
def sid (own : String) (nL : Nat) (o : Ao) : Bool := match o with
  | (tag, v, w, a, b, c, J) => match tag / 8 with
    | 0 => match tag % 8 with
      | 0 => true
      | 1 => decide ((Int8.ofInt v.toInt).toInt32 = v)
      | 2 => decide ((Int16.ofInt v.toInt).toInt32 = v)
      | 3 => decide (lw_tbl[c]? = some (.constant own a v))
      | 4 => decide (lw_tbl[c]? = some (.constant own a v))
      | 5 => decide (w = 0 ∨ w = 1)
      | 6 => decide (lw_tbl[c]? = some (.constantLong own a w))
      | 7 => decide (a < 4)
      | _ => false
    | 1 => match tag % 8 with
      | 0 => true
      | 1 => decide (a < 4)
      | 2 => true
      | 3 => decide (a < 4)
      | 4 => true
      | 5 => decide (a < 4 ∧ a < nL)
      | 6 => decide (a < nL)
      | 7 => decide (a < 4 ∧ a < nL)
      | _ => false
    | 2 => match tag % 8 with
      | 0 => decide (a < nL)
      | 1 => decide (a < 4 ∧ a + 1 < nL)
      | 2 => decide (a + 1 < nL)
      | 3 => true
      | 4 => true
      | 5 => true
      | 6 => true
      | 7 => true
      | _ => false
    | 3 => match tag % 8 with
      | 0 => true
      | 1 => true
      | 2 => true
      | 3 => true
      | 4 => true
      | 5 => true
      | 6 => true
      | 7 => true
      | _ => false
    | 4 => match tag % 8 with
      | 0 => true
      | 1 => true
      | 2 => true
      | 3 => true
      | 4 => true
      | 5 => true
      | 6 => true
      | 7 => decide (a < nL)
      | _ => false
    | 5 => match tag % 8 with
      | 0 => true
      | 1 => true
      | 2 => true
      | 3 => true
      | 4 => true
      | 5 => true
      | 6 => true
      | 7 => true
      | _ => false
    | 6 => match tag % 8 with
      | 0 => true
      | 1 => true
      | 2 => true
      | 3 => true
      | 4 => true
      | 5 => true
      | 6 => true
      | 7 => sfld own a b c
      | _ => false
    | 7 => match tag % 8 with
      | 0 => sfld own a b c
      | 1 => true
      | 2 => true
      | 3 => true
      | 4 => true
      | 5 => true
      | 6 => true
      | 7 => true
      | _ => false
    | 8 => match tag % 8 with
      | 0 => true
      | 1 => true
      | 2 => true
      | 3 => true
      | 4 => (List.range J.length).all (fun i => decide ((J.getD i (0, 0)).1.toInt = (J.headD (0, 0)).1.toInt + i))
      | 5 => srt J
      | 6 => decide (lw_tbl[c]? = some (.methodLink own a Lib.Math.min.name))
      | 7 => decide (lw_tbl[c]? = some (.methodLink own a Lib.Math.max.name))
      | _ => false
    | _ => false
def vck (E : Ev) (o : Ao) : Bool := bif Nat.beq o.1 62 then (match lk E.2.1 o.2.2.2.1 with
  | some ce => !Nat.beq ce.2.2.2.1 0
  | none => false) else bif Nat.beq o.1 63 then (match lk E.2.1 o.2.2.2.1 with
  | some ce => Nat.beq ce.2.2.2.1 0
  | none => false) else true
theorem vck_v {E : Ev} {v : Int32} {w : Int64} {a b c : Nat} {J : List (Int32 × Nat)} {ce : Ce} (h : vck E (62, v, w, a, b, c, J) = true) (hc : lk E.2.1 a = some ce) : ce.2.2.2.1 ≠ 0 := by
  have h1 : (match lk E.2.1 a with
    | some ce => !Nat.beq ce.2.2.2.1 0
    | none => false) = true := h
  rw [hc] at h1
  intro e
  simp only [e] at h1
  cases h1
theorem vck_s {E : Ev} {v : Int32} {w : Int64} {a b c : Nat} {J : List (Int32 × Nat)} {ce : Ce} (h : vck E (63, v, w, a, b, c, J) = true) (hc : lk E.2.1 a = some ce) : ce.2.2.2.1 = 0 := by
  have h1 : (match lk E.2.1 a with
    | some ce => Nat.beq ce.2.2.2.1 0
    | none => false) = true := h
  rw [hc] at h1
  exact Nat.eq_of_beq_eq_true h1
def chk (cc : ByteArray) (own : String) (nL : Nat) (q : Nat × Ao) : Bool := (match decode cc q.1 with
  | .ok z => decide (z = dcc q.1 q.2)
  | .error _ => false) && sid own nL q.2
theorem chk_dec {cc : ByteArray} {own : String} {nL pc : Nat} {o : Ao} (h : chk cc own nL (pc, o) = true) : decode cc pc = .ok (dcc pc o) ∧ sid own nL o = true := by
  unfold chk at h
  simp only [Bool.and_eq_true] at h
  refine ⟨?_, h.2⟩
  have h1 := h.1
  split at h1
  · rename_i z hz
    rw [hz, of_decide_eq_true h1]
  · cases h1
theorem lk_mem {α : Type} : ∀ {l : List (Nat × α)} {k : Nat} {v : α}, lk l k = some v → (k, v) ∈ l := by
  intro l
  induction l with
  | nil => intro k v h; cases h
  | cons q r ih =>
    intro k v h
    unfold lk at h
    cases hb : Nat.beq q.1 k with
    | true =>
      rw [hb, cond_true] at h
      have e := Nat.eq_of_beq_eq_true hb
      have e2 := Option.some.inj h
      subst e; subst e2
      exact List.mem_cons_self
    | false =>
      rw [hb, cond_false] at h
      exact List.mem_cons_of_mem _ (ih h)
def wld (D : va_G) (ad : Nat → Nat) (cI cB : Nat) (A : Nat → Prop) (μ : Mm) (U : State) : Prop := va_P D vwCl (wl ad cI cB μ) U.heap ∧ va_K D vwCl (ty2 cI cB) U ∧ va_D A (wl ad cI cB μ) ∧ nst U
def Qk (kind rt : Nat) (K : MV → Mm → Prop) (D : va_G) (ad : Nat → Nat) (cI cB : Nat) (A1 : Nat → Prop) : Array Value → State → Outcome → State → Prop := match kind with
  | 0 => va_Qv (fun u : Mm => K mU u) (fun u t => wld D ad cI cB A1 u t) A1
  | 1 => va_Qi (fun r (u : Mm) => K (mI r) u) (fun u t => wld D ad cI cB A1 u t) A1
  | 2 => va_Ql (fun r (u : Mm) => K (mJ r) u) (fun u t => wld D ad cI cB A1 u t) A1
  | _ => va_Qr (S := Mm × Nat) (fun u => K (mO rt u.2) u.1 ∧ lyL[u.2]? = some (rt, 0) ∧ rt < 10) (fun u a t => a = ad u.2 ∧ wld D ad cI cB A1 u.1 t) A1
def preW (D : va_G) (ad : Nat → Nat) (cI cB : Nat) (As : List MV) (μ : Mm) (sz : Nat) : Array Value → State → Prop := va_Pc (As.map (tv ad 0)) (fun U => U.heap.size = sz ∧ wld D ad cI cB (fun _ => True) μ U)
/-- a method's contract, out of what it does -/
def Con (l : Launch) (y : MethodName) (bt : ByteArray) (mL : Nat) (ret : Option FieldType) (rm : Room) (kind rt : Nat) (sp : Sp) : Prop :=
  ∀ (D : va_G) (ad : Nat → Nat) (cI cB : Nat) (As : List MV) (μ : Mm) (K : MV → Mm → Prop) (sz : Nat), (∀ v ∈ As, wtv false v) → sp As μ K →
    Met l y (Cond.code y bt mL ret :: lw_g) rm (preW D ad cI cB As μ sz) (Qk kind rt K D ad cI cB (va_A (wl ad cI cB μ) sz)) 0 0 (va_A (wl ad cI cB μ) sz)
def nstL (own : String) (idx : Nat) : Prop := (own = RX3 ∧ idx = 40) ∨ (own = RX8 ∧ idx = 73)
def ClOK (l : Launch) (R : Room) (own : String) (idx : Nat) (ce : Ce) : Prop := ∃ (y : MethodName) (bt : ByteArray) (mL : Nat) (ret : Option FieldType) (rm : Room), Con l y bt mL ret rm ce.2.1 ce.2.2.1 ce.2.2.2.2 ∧
  (rm.cells = 0 ∧ rm.slots = 0 ∧ rm.frames + 1 ≤ R.frames ∧ 8 + (mL + 11) + rm.locals ≤ R.locals) ∧ (Cond.code y bt mL ret ∈ lw_g ∧ Cond.initialized y.cls ∈ lw_g) ∧ (y.cls ≠ "java/lang/invoke/MethodHandle" ∧ y.cls ≠ "java/lang/invoke/VarHandle") ∧
  match ce.2.2.2.1 with
  | 0 => (parseMethodDescriptor y.desc).map (fun d => d.parameters.length) = some ce.1 ∧ Cond.static y ∈ lw_g ∧ (Cond.methodLink own idx y ∈ lw_g ∨ (y = y_within ∧ nstL own idx))
  | t + 1 => (parseMethodDescriptor y.desc).map (fun d => d.parameters.length) = some (ce.1 - 1) ∧ 1 ≤ ce.1 ∧ Cond.instanceMethod y ∈ lw_g ∧ Cond.selects y.cls y y ∈ lw_g ∧ Cond.methodLink own idx y ∈ lw_g ∧ ∃ q, vwCl[t]? = some q ∧ q.1 = y.cls
theorem preW_blind {D : va_G} {ad : Nat → Nat} {cI cB : Nat} {As : List MV} {μ : Mm} {sz : Nat} : FrameBlind (preW D ad cI cB As μ sz) := by
  intro a U g mk q
  obtain ⟨q0, q1, qP, qK, qD, qN⟩ := q
  exact ⟨q0, q1, qP, va_K.moved (u := U) (U := U.calling g mk a) (Vm.Alike.refl U.vm) qK, qD, nst.same rfl qN⟩
theorem goodIn_g {w : Cond} (h : w ∈ lw_g) : GoodIn lw_g (w :: lw_g) := by
  intro x hx
  have hm : x ∈ lw_g := by
    rcases List.mem_cons.mp hx with e | e
    · rw [e]; exact h
    · exact e
  exact ⟨hm, good_g _ hm⟩
/-- the machine stands at pc with these locals, this stack, this memory, and ends well -/
def Wt (p : Program) (l : Launch) (e : Env) (R : Room) (s : State) (m : MethodId) (args : Array Value) (below : List Frame) (meth : Method) (c : Code) (cells slots : Nat) (Q : State → Prop) (D : va_G) (ad : Nat → Nat) (b cI cB nL : Nat) (sc lg : Bool) (A : Nat → Prop) (H0 : Heap) (pc : Nat) (L S : List MV) (μ : Mm) : Prop :=
  ∀ (H : Heap) (locs : List Loc) (ls : Array Slot), lR ad b nL lg ls L → (∀ v ∈ L, wtv sc v) → (∀ v ∈ S, wtv sc v) → va_P D vwCl (wl ad cI cB μ) H → va_S A H0 H locs → W p l e R s m args below meth c H locs cells slots Q (F0 m pc ls (S.map (tv ad b)))
def rtOK (rk rt : Nat) (i : Instr) (v : MV) : Prop := match rk with
  | 0 => i = .return_ ∧ v = mU
  | 1 => i = .ireturn ∧ ∃ x, v = mI x
  | 2 => i = .lreturn ∧ ∃ x, v = mJ x
  | 3 => i = .areturn ∧ ∃ c, v = mO rt c
  | 4 => i = .ireturn ∧ ∃ x, v = mI x ∧ zb x
  | _ => False
def rst (ad : Nat → Nat) (b : Nat) (v : MV) : List Value := match v with
  | .inr (.inr (.inr _)) => []
  | v => [tv ad b v]
theorem swt_tbl {x : Int32} {P : Nat → Prop} {d : Nat} : ∀ {J : List (Int32 × Nat)}, swt J d x P → (∃ (i : Nat) (q : Int32 × Nat), J[i]? = some q ∧ x = q.1 ∧ P q.2) ∨ ((∀ q ∈ J, x ≠ q.1) ∧ P d) := by
  intro J
  induction J with
  | nil => exact fun h => Or.inr ⟨fun q hq => absurd hq List.not_mem_nil, h⟩
  | cons q r ih =>
    intro h
    unfold swt at h
    split at h
    · rename_i hq
      exact Or.inl ⟨0, q, rfl, hq, h⟩
    · rename_i hq
      rcases ih h with ⟨i, q', h1, h2⟩ | ⟨h1, h2⟩
      · exact Or.inl ⟨i + 1, q', by simpa using h1, h2⟩
      · refine Or.inr ⟨fun q' hq' => ?_, h2⟩
        rcases List.mem_cons.mp hq' with e | e
        · rw [e]; exact hq
        · exact h1 q' e
theorem swt_lku {pc : Nat} {x : Int32} {P : Nat → Prop} {d : Nat} : ∀ {J : List (Int32 × Nat)}, swt J d x P → ∃ t, P t ∧ Op.lookupswitch.offset (J.map (fun q => (q.1.toInt, (q.2 : Int) - pc))) ((d : Int) - pc) x.toInt = (t : Int) - pc := by
  intro J
  induction J with
  | nil => exact fun h => ⟨d, h, rfl⟩
  | cons q r ih =>
    intro h
    unfold swt at h
    split at h
    · rename_i hq
      refine ⟨q.2, h, ?_⟩
      show (if q.1.toInt = x.toInt then _ else _) = _
      rw [if_pos (by rw [hq])]
    · rename_i hq
      obtain ⟨t, h1, h2⟩ := ih h
      refine ⟨t, h1, ?_⟩
      show (if q.1.toInt = x.toInt then _ else _) = _
      rw [if_neg (fun z => hq (Int32.toInt_inj.mp z).symm)]
      exact h2
theorem vi_in {i : Int32} {n : Nat} (h : vi i n) : vp_in i n := vp_in_iff.mpr h
theorem zb_narrow {x : Int32} (h : zb x) : narrow .boolean (.int x) = .int x := by
  rcases h with rfl | rfl <;> rfl
theorem zb_nar {x : Int32} (h : zb x) : vp_nar .boolean x = x := by
  rcases h with rfl | rfl <;> rfl
theorem zb_fits {x : Int32} (h : zb x) : fits .boolean (.int x) = true := by
  rcases h with rfl | rfl <;> rfl
theorem all_cons {α : Type} {p : α → Prop} {x : α} {l : List α} (h : p x) (hl : ∀ y ∈ l, p y) : ∀ y ∈ x :: l, p y := fun y hy => (List.mem_cons.mp hy).elim (fun e => e ▸ h) (hl y)
theorem all_tl {α : Type} {p : α → Prop} {x : α} {l : List α} (h : ∀ y ∈ x :: l, p y) : ∀ y ∈ l, p y := fun y hy => h y (List.mem_cons_of_mem _ hy)
theorem all_hd {α : Type} {p : α → Prop} {x : α} {l : List α} (h : ∀ y ∈ x :: l, p y) : p x := h x List.mem_cons_self
theorem ctS_sum {ad : Nat → Nat} {b : Nat} : ∀ (S : List MV), ((S.map (tv ad b)).map fun v => v.category).sum = ctS S := by
  intro S
  induction S with
  | nil => rfl
  | cons v S ih =>
    rw [List.map_cons, List.map_cons, List.sum_cons, ih]
    match v with
    | .inl x => rfl
    | .inr (.inl x) => rfl
    | .inr (.inr (.inl (k, t, c))) =>
      rw [tv_cat (fun x h => by cases h)]; rfl
    | .inr (.inr (.inr _)) => rfl
theorem nq_wt {ad : Nat → Nat} {b : Nat} {sc : Bool} : ∀ {S : List MV}, nq S = true → (∀ v ∈ S, wtv sc v) → ∀ v ∈ S, wtv false v ∧ tv ad b v = tv ad 0 v := by
  intro S
  induction S with
  | nil => intro _ _ v hv; cases hv
  | cons w S ih =>
    intro h hw v hv
    have hw1 := hw w List.mem_cons_self
    match w, h, hw1, hv with
    | .inl x, h, hw1, hv =>
      rcases List.mem_cons.mp hv with e | e
      · subst e; exact ⟨trivial, rfl⟩
      · exact ih h (all_tl hw) v e
    | .inr (.inl x), h, hw1, hv =>
      rcases List.mem_cons.mp hv with e | e
      · subst e; exact ⟨trivial, rfl⟩
      · exact ih h (all_tl hw) v e
    | .inr (.inr (.inr _)), h, hw1, hv =>
      rcases List.mem_cons.mp hv with e | e
      · subst e; exact ⟨trivial, rfl⟩
      · exact ih h (all_tl hw) v e
    | .inr (.inr (.inl (k, t, c))), h, hw1, hv =>
      unfold nq at h
      split at h
      · rename_i e; cases e
      · cases h
      · rename_i hne e
        cases e
        have hk : k ≠ 3 := fun z => by subst z; exact hne _ _ rfl
        rcases List.mem_cons.mp hv with e | e
        · subst e
          refine ⟨?_, ?_⟩
          · unfold wtv at hw1 ⊢
            simp only [if_neg hk] at hw1 ⊢
            exact hw1
          · unfold tv
            simp only [if_neg hk]
        · exact ih h (all_tl hw) v e
theorem cE_obj {ad : Nat → Nat} {cI cB : Nat} {μ : Mm} {c t : Nat} (h : t < 10) : cE ad cI cB μ c (t, 0) = .inr (t, fsO ad μ c t) := by
  unfold cE
  rw [if_neg (by simp only; omega), if_neg (by simp only; omega)]
  rfl
theorem tv_ref (ad : Nat → Nat) (b : Nat) (r : Nat × Nat × Nat) : ∃ z, tv ad b (.inr (.inr (.inl r))) = .ref z := by
  obtain ⟨k, t, c⟩ := r
  unfold tv
  simp only
  split <;> exact ⟨_, rfl⟩
theorem set_wt {sc : Bool} {L : List MV} {a : Nat} (h : ∀ w ∈ L, wtv sc w) : ∀ w ∈ L.set a mU, wtv sc w := by
  intro w hw
  rcases List.mem_or_eq_of_mem_set hw with e | e
  · exact h w e
  · rw [e]; trivial
theorem srt_ok {pc : Nat} : ∀ {J : List (Int32 × Nat)}, srt J = true → ((J.map (fun q => (q.1.toInt, (q.2 : Int) - pc))).zip ((J.map (fun q => (q.1.toInt, (q.2 : Int) - pc))).drop 1)).all (fun (a, next) => a.1 < next.1) = true
  | [], _ => rfl
  | [q], _ => rfl
  | q :: r :: J, h => by
    unfold srt at h
    simp only [Bool.and_eq_true, decide_eq_true_eq] at h
    have ih := srt_ok (pc := pc) h.2
    simp only [List.map_cons, List.drop_succ_cons, List.drop_zero, List.zip_cons_cons, List.all_cons, Bool.and_eq_true, decide_eq_true_eq] at ih ⊢
    exact ⟨h.1, ih⟩
theorem sid_big {own : String} {nL n : Nat} {q : Int32 × Int64 × Nat × Nat × Nat × List (Int32 × Nat)} : sid own nL (n + 72, q) = false := by
  obtain ⟨v, w, a, b, c, J⟩ := q
  unfold sid
  simp only
  have h8 : 9 ≤ (n + 72) / 8 := by omega
  split <;> first | rfl | (exfalso; omega) | (split <;> first | rfl | (exfalso; omega))
theorem w_min : Cond.static Lib.Math.min.name ∈ lw_g ∧ Cond.initialized "java/lang/Math" ∈ lw_g ∧ Cond.code Lib.Math.min.name Lib.Math.min.code 2 (some .int) ∈ lw_g := by decide +kernel
theorem w_max : Cond.static Lib.Math.max.name ∈ lw_g ∧ Cond.initialized "java/lang/Math" ∈ lw_g ∧ Cond.code Lib.Math.max.name Lib.Math.max.code 2 (some .int) ∈ lw_g := by decide +kernel
theorem fin4 {a : Nat} (h : a < 4) : ((Fin.ofNat 4 a : Fin 4) : Nat) = a := Nat.mod_eq_of_lt h

theorem cll_sound {p : Program} {l : Launch} {e : Env} {R : Room} {s : State} {m : MethodId} {args : Array Value} {below : List Frame} {meth : Method} {c : Code} {cells slots : Nat} {Q : State → Prop} {D : va_G} {ad : Nat → Nat} {b cI cB nL : Nat} {sc : Bool} {A : Nat → Prop} {H0 : Heap} {cc : ByteArray} {own : String} {E : Ev} {K : MV → Mm → Prop}
    (hx : p.tables.exec = Jvm.exec) (hb : c.code = cc) (hml : c.maxLocals = nL) (hown : s.vm.findClass own = some m.cls) (hts : ∀ w ∈ lw_g, w.before args s = true) (hK : va_K D vwCl (ty2 cI cB) s) (hN : nst s) (hA : ∀ q, H0.size ≤ q → A q) (hD : ∀ μ, va_D A (wl ad cI cB μ)) (hroom : cells ≤ R.cells ∧ slots ≤ R.slots)
    (hcl : ∀ a ce, lk E.2.1 a = some ce → ClOK l R own a ce) (hsc : sc = true → va_X b E.2.2.2.2.2.1 E.2.2.2.2.2.2 s H0 ∧ b < H0.size ∧ ¬ A b)
    {pc a : Nat} {L S : List MV} {μ : Mm} (hi : decode cc pc = .ok (.invokevirtual a, 3) ∨ decode cc pc = .ok (.invokestatic a, 3))
    (hv : ∀ ce, lk E.2.1 a = some ce → (decode cc pc = .ok (.invokevirtual a, 3) ↔ ce.2.2.2.1 ≠ 0))
    (h : cll (lk E.2.1 a) S μ (fun S μ => Wt p l e R s m args below meth c cells slots Q D ad b cI cB nL sc E.2.2.2.2.1 A H0 (pc + 3) L S μ)) : Wt p l e R s m args below meth c cells slots Q D ad b cI cB nL sc E.2.2.2.2.1 A H0 pc L S μ := by
  intro H locs ls hl hwL hwS hP hS
  cases hce : lk E.2.1 a with
  | none => rw [hce] at h; exact h.elim
  | some ce =>
    rw [hce] at h
    have hv := hv _ hce
    obtain ⟨y, bt, mL, ret, rm, hC, ⟨hrc, hrs, hfr, hlo⟩, ⟨hcd, hin⟩, hmh, hk⟩ := hcl _ _ hce
    obtain ⟨n, kind, rt, rc, sp⟩ := ce
    unfold cll at h
    simp only at h
    cases hbb : (Nat.ble n S.length && (Nat.ble (ctS (S.drop n)) 8 && (rck rc (S.take n).reverse && nq (S.take n)))) with
    | false => rw [hbb] at h; exact h.elim
    | true =>
      rw [hbb, cond_true] at h
      simp only [Bool.and_eq_true] at hbb
      obtain ⟨hn, hct, hrk, hnq⟩ := hbb
      have hn := Nat.le_of_ble_eq_true hn
      have hct := Nat.le_of_ble_eq_true hct
      have hq : ∀ v ∈ S.take n, wtv false v ∧ tv ad b v = tv ad 0 v := nq_wt (ad := ad) (b := b) hnq (fun v hv => hwS v (List.mem_of_mem_take hv))
      have hwA : ∀ v ∈ (S.take n).reverse, wtv false v := fun v hv => (hq v (List.mem_reverse.mp hv)).1
      have hwD : ∀ v ∈ S.drop n, wtv sc v := fun v hv => hwS v (List.mem_of_mem_drop hv)
      have hstk : S.map (tv ad b) = ((S.take n).reverse.map (tv ad 0)).reverse ++ (S.drop n).map (tv ad b) := by
        rw [List.map_reverse, List.reverse_reverse]
        conv => lhs; rw [← List.take_append_drop n S, List.map_append]
        congr 1
        exact List.map_congr_left (fun v hv => (hq v hv).2)
      have hln : (S.take n).reverse.length = n := by simp; omega
      have hcat : (((S.drop n).map (tv ad b)).map fun v => v.category).sum ≤ 8 := Nat.le_trans (Nat.le_of_eq (ctS_sum _)) hct
      have hM := hC D ad cI cB _ μ _ H.size hwA h
      have hF : ∀ q, va_A (wl ad cI cB μ) H.size q → A q := fun q hq => hq.elim (fun ⟨k, e, h⟩ => (hD μ).2 k _ h) (fun h => hA q (Nat.le_trans hS.1 h))
      have hPre : ∀ U : State, U.heap = H → s.WarmedH U.vm → preW D ad cI cB (S.take n).reverse μ H.size (((S.take n).reverse.map (tv ad 0)).toArray) U := fun U hU hW => ⟨rfl, by rw [hU], by rw [hU]; exact hP, va_K.moved hW.alike hK, (hD μ).weaken (fun _ _ _ _ => trivial), nst.warm hW hN⟩
      have hGI : GoodIn lw_g (Cond.code y bt mL ret :: lw_g) := goodIn_g hcd
      have hrun : va_Run p l e R s m args below meth c H locs cells slots 0 0 (F0 m pc ls (S.map (tv ad b))) ((S.drop n).map (tv ad b)) (Qk kind rt (fun v μ1 => knd kind rt v (S.drop n) (fun S' => Wt p l e R s m args below meth c cells slots Q D ad b cI cB nL sc E.2.2.2.2.1 A H0 (pc + 3) L S' μ1)) D ad cI cB (va_A (wl ad cI cB μ) H.size) (((S.take n).reverse.map (tv ad 0)).toArray)) (va_A (wl ad cI cB μ) H.size) := by
        cases rc with
        | zero =>
          obtain ⟨hpar, hst, hlink⟩ := hk
          have hdg : decode cc pc = .ok (.invokestatic a, 3) := hi.elim (fun z => absurd rfl (hv.mp z)) id
          rcases hlink with hlink | ⟨hyw, hnl⟩
          · exact va_runS (As := (S.take n).reverse.map (tv ad 0)) (rest := (S.drop n).map (tv ad b)) ⟨hx, hb, hml, hown, hts⟩ hM ⟨callB_of n hts hGI rfl hrc hrs (hts _ hin) (hts _ hlink) ⟨hmh.1, hmh.2, hpar⟩ ⟨hfr, hlo⟩, hts _ hst⟩ ⟨preW_blind, hPre⟩ rfl (by rw [List.length_map]; exact hln) hl.1.1 hstk (lv_room hcat) hdg hroom
          · have hnw : va_Nw (.methodLinkNest own a y RX9) s := by
              subst hyw
              rcases hnl with ⟨e1, e2⟩ | ⟨e1, e2⟩
              · subst e1; subst e2; exact hN.1
              · subst e1; subst e2; exact hN.2
            exact va_runSN (As := (S.take n).reverse.map (tv ad 0)) (rest := (S.drop n).map (tv ad b)) ⟨hx, hb, hml, hown, hts⟩ hM ⟨va_cnB n hts hGI rfl hrc hrs hnw (hts _ hin) ⟨hmh.1, hmh.2, hpar⟩ ⟨hfr, hlo⟩, hts _ hst, trivial⟩ ⟨preW_blind, hPre⟩ rfl (by rw [List.length_map]; exact hln) hl.1.1 hstk (lv_room hcat) hdg hroom
        | succ t =>
          obtain ⟨hpar, hn1, hinst, hsel, hlink, q, hq1, hq2⟩ := hk
          have hdg : decode cc pc = .ok (.invokevirtual a, 3) := hv.mpr (by simp)
          obtain ⟨c0, As, hAs⟩ : ∃ c0 As, (S.take n).reverse = mO t c0 :: As := by
            unfold rck at hrk
            split at hrk
            · rename_i e; exact absurd e (by simp)
            · rename_i t1 e
              cases e
              split at hrk
              · rename_i t' c' As' hh
                rw [hh, Nat.eq_of_beq_eq_true hrk]
                exact ⟨c', As', rfl⟩
              · cases hrk
          have hly : lyL[c0]? = some (t, 0) := (hwA (mO t c0) (by rw [hAs]; exact List.mem_cons_self)).1
          have htl : t < 10 := (hwA (mO t c0) (by rw [hAs]; exact List.mem_cons_self)).2
          have hrv := va_recv hK hP (ci := t) (q := q) (q0 := c0) hq1 ((wl_get hly).trans (by rw [cE_obj htl]))
          have hlA : As.length + 1 = n := by rw [← hln, hAs]; rfl
          have hmA : (S.take n).reverse.map (tv ad 0) = .ref (ad c0) :: As.map (tv ad 0) := by rw [hAs]; rfl
          rw [hmA]
          rw [hmA] at hPre
          refine va_runV (As := As.map (tv ad 0)) (b := ad c0) (rest := (S.drop n).map (tv ad b)) (C := y.cls) (n := n - 1) ⟨hx, hb, hml, hown, hts⟩ hM ⟨callB_of (n - 1) hts hGI rfl hrc hrs (hts _ hin) (hts _ hlink) ⟨hmh.1, hmh.2, hpar⟩ ⟨hfr, hlo⟩, hts _ hinst, hts _ hsel⟩ ⟨preW_blind, by rw [← hq2]; exact hrv, hPre⟩ rfl (by rw [List.length_map]; omega) hl.1.1 ?_ (lv_room hcat) hdg hroom
          show S.map (tv ad b) = _
          rw [hstk, hmA, List.reverse_cons, List.append_assoc]
          rfl
      have hAA : ∀ q, q < H.size → va_A (wl ad cI cB μ) H.size q → A q := fun q _ h => hF q h
      clear hM h hC
      match kind, hrun with
      | 0, hrun => exact va_callv (a := ((S.take n).reverse.map (tv ad 0)).toArray) hrun hS hAA hF (fun u t H1 locs1 ht hvm hw hB hz hk hS1 => hw H1 locs1 ls hl hwL hwD (by rw [← ht]; exact hB.1) hS1)
      | 1, hrun => exact va_calli (a := ((S.take n).reverse.map (tv ad 0)).toArray) hrun hS hAA hF (fun r u t H1 locs1 ht hvm hw hB hz hk hS1 => hw H1 locs1 ls hl hwL (all_cons trivial hwD) (by rw [← ht]; exact hB.1) hS1)
      | 2, hrun => exact va_calll (a := ((S.take n).reverse.map (tv ad 0)).toArray) hrun hS hAA hF (fun r u t H1 locs1 ht hvm hw hB hz hk hS1 => hw H1 locs1 ls hl hwL (all_cons trivial hwD) (by rw [← ht]; exact hB.1) hS1)
      | k + 3, hrun => exact va_callr (a := ((S.take n).reverse.map (tv ad 0)).toArray) hrun hS hAA hF (fun u z t H1 locs1 ht hvm hw hB hz hk hS1 => by
          obtain ⟨hz1, hB⟩ := hB
          subst hz1
          exact hw.1 H1 locs1 ls hl hwL (all_cons hw.2 hwD) (by rw [← ht]; exact hB.1) hS1)

set_option maxHeartbeats 4000000 in
theorem opx_sound {p : Program} {l : Launch} {e : Env} {R : Room} {s : State} {m : MethodId} {args : Array Value} {below : List Frame} {meth : Method} {c : Code} {cells slots : Nat} {Q : State → Prop} {D : va_G} {ad : Nat → Nat} {b cI cB nL : Nat} {sc : Bool} {A : Nat → Prop} {H0 : Heap} {cc : ByteArray} {own : String} {E : Ev} {K : MV → Mm → Prop}
    (hx : p.tables.exec = Jvm.exec) (hb : c.code = cc) (hml : c.maxLocals = nL) (hown : s.vm.findClass own = some m.cls) (hts : ∀ w ∈ lw_g, w.before args s = true) (hK : va_K D vwCl (ty2 cI cB) s) (hN : nst s) (hA : ∀ q, H0.size ≤ q → A q) (hD : ∀ μ, va_D A (wl ad cI cB μ)) (hroom : cells ≤ R.cells ∧ slots ≤ R.slots)
    (hcl : ∀ a ce, lk E.2.1 a = some ce → ClOK l R own a ce) (hsc : sc = true → va_X b E.2.2.2.2.2.1 E.2.2.2.2.2.2 s H0 ∧ b < H0.size ∧ ¬ A b)
    (hret : ∀ (v : MV) (μ : Mm) (H : Heap) (locs : List Loc) (ls : Array Slot) (pc : Nat) (i : Instr), decode cc pc = .ok (i, 1) → K v μ → va_P D vwCl (wl ad cI cB μ) H → va_S A H0 H locs → wtv sc v → rtOK E.2.2.1 E.2.2.2.1 i v → W p l e R s m args below meth c H locs cells slots Q (F0 m pc ls (rst ad b v)))
    {pc : Nat} {o : Ao} (hd : decode cc pc = .ok (dcc pc o)) (hs : sid own nL o = true) (hv : vck E o = true) (hmm : 70 ≤ o.1 → 1 ≤ R.frames ∧ 21 ≤ R.locals) (L S : List MV) (μ : Mm) : opx E K (Wt p l e R s m args below meth c cells slots Q D ad b cI cB nL sc E.2.2.2.2.1 A H0) pc L S μ o → Wt p l e R s m args below meth c cells slots Q D ad b cI cB nL sc E.2.2.2.2.1 A H0 pc L S μ := by
  obtain ⟨tag, v, w, a, b', c', J⟩ := o
  intro h
  match tag, h, hd, hs, hv, hmm with
  | 0, h, hd, hs, hv, hmm =>
    intro H locs ls hl hwL hwS hP hS
    exact lv_iconst hx hb hd (Int32.ofInt_toInt v) (h H locs ls hl hwL (all_cons trivial hwS) hP hS)
  | 1, h, hd, hs, hv, hmm =>
    intro H locs ls hl hwL hwS hP hS
    exact lv_bipush hx hb hd (of_decide_eq_true hs) (h H locs ls hl hwL (all_cons trivial hwS) hP hS)
  | 2, h, hd, hs, hv, hmm =>
    intro H locs ls hl hwL hwS hP hS
    exact lv_sipush hx hb hd (of_decide_eq_true hs) (h H locs ls hl hwL (all_cons trivial hwS) hP hS)
  | 3, h, hd, hs, hv, hmm =>
    intro H locs ls hl hwL hwS hP hS
    exact lv_ldc hx hb hown (hts _ (mem_g (of_decide_eq_true hs) rfl)) hd (h H locs ls hl hwL (all_cons trivial hwS) hP hS)
  | 4, h, hd, hs, hv, hmm =>
    intro H locs ls hl hwL hwS hP hS
    exact lv_ldcw hx hb hown (hts _ (mem_g (of_decide_eq_true hs) rfl)) hd (h H locs ls hl hwL (all_cons trivial hwS) hP hS)
  | 5, h, hd, hs, hv, hmm =>
    intro H locs ls hl hwL hwS hP hS
    have hw := of_decide_eq_true hs
    rcases hw with rfl | rfl
    · exact lv_lconst (n := 0) hx hb hd rfl (h H locs ls hl hwL (all_cons trivial hwS) hP hS)
    · exact lv_lconst (n := 1) hx hb hd rfl (h H locs ls hl hwL (all_cons trivial hwS) hP hS)
  | 6, h, hd, hs, hv, hmm =>
    intro H locs ls hl hwL hwS hP hS
    exact lv_ldc2 hx hb hown (hts _ (mem_g (of_decide_eq_true hs) rfl)) hd (h H locs ls hl hwL (all_cons trivial hwS) hP hS)
  | 7, h, hd, hs, hv, hmm =>
    obtain ⟨x, hr, h9⟩ := ldI_ex h
    clear h
    have h := h9
    intro H locs ls hl hwL hwS hP hS
    exact lv_iload_n hx hb hd (fin4 (of_decide_eq_true hs)) (hl.at hr (by simp)) (h H locs ls hl hwL (all_cons trivial hwS) hP hS)
  | 8, h, hd, hs, hv, hmm =>
    obtain ⟨x, hr, h9⟩ := ldI_ex h
    clear h
    have h := h9
    intro H locs ls hl hwL hwS hP hS
    exact lv_iload hx hb hd (hl.at hr (by simp)) (h H locs ls hl hwL (all_cons trivial hwS) hP hS)
  | 9, h, hd, hs, hv, hmm =>
    obtain ⟨r, hr, h9⟩ := ldR_ex h
    clear h
    have h := h9
    intro H locs ls hl hwL hwS hP hS
    have h1 := hl.at hr (by simp)
    obtain ⟨z, hz⟩ := tv_ref ad b r
    rw [hz] at h1
    refine lv_aload_n hx hb hd (fin4 (of_decide_eq_true hs)) h1 ?_
    have h2 := h H locs ls hl hwL (all_cons (hwL _ (List.mem_of_getElem? hr)) hwS) hP hS
    rw [List.map_cons, hz] at h2
    exact h2
  | 10, h, hd, hs, hv, hmm =>
    obtain ⟨r, hr, h9⟩ := ldR_ex h
    clear h
    have h := h9
    intro H locs ls hl hwL hwS hP hS
    have h1 := hl.at hr (by simp)
    obtain ⟨z, hz⟩ := tv_ref ad b r
    rw [hz] at h1
    refine lv_aload hx hb hd h1 ?_
    have h2 := h H locs ls hl hwL (all_cons (hwL _ (List.mem_of_getElem? hr)) hwS) hP hS
    rw [List.map_cons, hz] at h2
    exact h2
  | 11, h, hd, hs, hv, hmm =>
    obtain ⟨x, hr, h9⟩ := ldJ_ex h
    clear h
    have h := h9
    intro H locs ls hl hwL hwS hP hS
    exact lv_lload_n hx hb hd (fin4 (of_decide_eq_true hs)) (hl.at hr (by simp)) (h H locs ls hl hwL (all_cons trivial hwS) hP hS)
  | 12, h, hd, hs, hv, hmm =>
    obtain ⟨x, hr, h9⟩ := ldJ_ex h
    clear h
    have h := h9
    intro H locs ls hl hwL hwS hP hS
    exact lv_lload hx hb hd (hl.at hr (by simp)) (h H locs ls hl hwL (all_cons trivial hwS) hP hS)
  | 13, h, hd, hs, hv, hmm =>
    obtain ⟨x, S', rfl, h9⟩ := pI_ex h
    clear h
    have h := h9
    intro H locs ls hl hwL hwS hP hS
    exact lv_istore_n hx hb hd (fin4 (of_decide_eq_true hs).1) hl.1 (of_decide_eq_true hs).2 rfl (fun ls' hl' => h H locs ls' (hl.sto1 (of_decide_eq_true hs).2 (by simp) (by simp) hl') (sto_wt hwL trivial) (all_tl hwS) hP hS)
  | 14, h, hd, hs, hv, hmm =>
    obtain ⟨x, S', rfl, h9⟩ := pI_ex h
    clear h
    have h := h9
    intro H locs ls hl hwL hwS hP hS
    exact lv_istore hx hb hd hl.1 (of_decide_eq_true hs) rfl (fun ls' hl' => h H locs ls' (hl.sto1 (of_decide_eq_true hs) (by simp) (by simp) hl') (sto_wt hwL trivial) (all_tl hwS) hP hS)
  | 15, h, hd, hs, hv, hmm =>
    obtain ⟨r, S', rfl, h9⟩ := pR_ex h
    clear h
    have h := h9
    intro H locs ls hl hwL hwS hP hS
    obtain ⟨z, hz⟩ := tv_ref ad b r
    rw [List.map_cons, hz]
    exact lv_astore_n hx hb hd (fin4 (of_decide_eq_true hs).1) hl.1 (of_decide_eq_true hs).2 rfl (fun ls' hl' => h H locs ls' (hl.sto1 (of_decide_eq_true hs).2 (by simp) (by simp) (by rw [hz]; exact hl')) (sto_wt hwL (all_hd hwS)) (all_tl hwS) hP hS)
  | 16, h, hd, hs, hv, hmm =>
    obtain ⟨r, S', rfl, h9⟩ := pR_ex h
    clear h
    have h := h9
    intro H locs ls hl hwL hwS hP hS
    obtain ⟨z, hz⟩ := tv_ref ad b r
    rw [List.map_cons, hz]
    exact lv_astore hx hb hd hl.1 (of_decide_eq_true hs) rfl (fun ls' hl' => h H locs ls' (hl.sto1 (of_decide_eq_true hs) (by simp) (by simp) (by rw [hz]; exact hl')) (sto_wt hwL (all_hd hwS)) (all_tl hwS) hP hS)
  | 17, h, hd, hs, hv, hmm =>
    obtain ⟨x, S', rfl, h9⟩ := pJ_ex h
    clear h
    have h := h9
    intro H locs ls hl hwL hwS hP hS
    cases hlg : E.2.2.2.2.1 with
    | false => rw [hlg] at h; exact h.elim
    | true =>
      rw [hlg, cond_true] at h
      rw [hlg] at hl
      refine lv_lstore_n hx hb hd (fin4 (of_decide_eq_true hs).1) hl.1 (of_decide_eq_true hs).2 rfl (fun ls' hl' => ?_)
      have h0 := h H locs ls'
      exact h0 (hl.sto2 (of_decide_eq_true hs).2 hl') (set_wt (sto_wt hwL trivial)) (all_tl hwS) hP hS
  | 18, h, hd, hs, hv, hmm =>
    obtain ⟨x, S', rfl, h9⟩ := pJ_ex h
    clear h
    have h := h9
    intro H locs ls hl hwL hwS hP hS
    cases hlg : E.2.2.2.2.1 with
    | false => rw [hlg] at h; exact h.elim
    | true =>
      rw [hlg, cond_true] at h
      rw [hlg] at hl
      refine lv_lstore hx hb hd hl.1 (of_decide_eq_true hs) rfl (fun ls' hl' => ?_)
      have h0 := h H locs ls'
      exact h0 (hl.sto2 (of_decide_eq_true hs) hl') (set_wt (sto_wt hwL trivial)) (all_tl hwS) hP hS
  | 19, h, hd, hs, hv, hmm =>
    obtain ⟨y, x, S', rfl, h9⟩ := pII_ex h
    clear h
    have h := h9
    intro H locs ls hl hwL hwS hP hS
    exact lv_iadd hx hb hd (h H locs ls hl hwL (all_cons trivial (all_tl (all_tl hwS))) hP hS)
  | 20, h, hd, hs, hv, hmm =>
    obtain ⟨y, x, S', rfl, h9⟩ := pII_ex h
    clear h
    have h := h9
    intro H locs ls hl hwL hwS hP hS
    exact lv_isub hx hb hd (h H locs ls hl hwL (all_cons trivial (all_tl (all_tl hwS))) hP hS)
  | 21, h, hd, hs, hv, hmm =>
    obtain ⟨y, x, S', rfl, h9⟩ := pII_ex h
    clear h
    have h := h9
    intro H locs ls hl hwL hwS hP hS
    exact lv_imul hx hb hd (h H locs ls hl hwL (all_cons trivial (all_tl (all_tl hwS))) hP hS)
  | 25, h, hd, hs, hv, hmm =>
    obtain ⟨y, x, S', rfl, h9⟩ := pII_ex h
    clear h
    have h := h9
    intro H locs ls hl hwL hwS hP hS
    exact lv_iand hx hb hd (h H locs ls hl hwL (all_cons trivial (all_tl (all_tl hwS))) hP hS)
  | 26, h, hd, hs, hv, hmm =>
    obtain ⟨y, x, S', rfl, h9⟩ := pII_ex h
    clear h
    have h := h9
    intro H locs ls hl hwL hwS hP hS
    exact lv_ior hx hb hd (h H locs ls hl hwL (all_cons trivial (all_tl (all_tl hwS))) hP hS)
  | 27, h, hd, hs, hv, hmm =>
    obtain ⟨y, x, S', rfl, h9⟩ := pII_ex h
    clear h
    have h := h9
    intro H locs ls hl hwL hwS hP hS
    exact lv_ixor hx hb hd (h H locs ls hl hwL (all_cons trivial (all_tl (all_tl hwS))) hP hS)
  | 28, h, hd, hs, hv, hmm =>
    obtain ⟨y, x, S', rfl, h9⟩ := pII_ex h
    clear h
    have h := h9
    intro H locs ls hl hwL hwS hP hS
    exact lv_ishl hx hb hd (h H locs ls hl hwL (all_cons trivial (all_tl (all_tl hwS))) hP hS)
  | 29, h, hd, hs, hv, hmm =>
    obtain ⟨y, x, S', rfl, h9⟩ := pII_ex h
    clear h
    have h := h9
    intro H locs ls hl hwL hwS hP hS
    exact lv_ishr hx hb hd (h H locs ls hl hwL (all_cons trivial (all_tl (all_tl hwS))) hP hS)
  | 30, h, hd, hs, hv, hmm =>
    obtain ⟨y, x, S', rfl, h9⟩ := pII_ex h
    clear h
    have h := h9
    intro H locs ls hl hwL hwS hP hS
    exact lv_iushr hx hb hd rfl (h H locs ls hl hwL (all_cons trivial (all_tl (all_tl hwS))) hP hS)
  | 22, h, hd, hs, hv, hmm =>
    obtain ⟨y, x, S', rfl, h9⟩ := pII_ex h
    clear h
    have h := h9
    intro H locs ls hl hwL hwS hP hS
    exact lv_idiv hx hb hd h.1 (h.2 H locs ls hl hwL (all_cons trivial (all_tl (all_tl hwS))) hP hS)
  | 23, h, hd, hs, hv, hmm =>
    obtain ⟨y, x, S', rfl, h9⟩ := pII_ex h
    clear h
    have h := h9
    intro H locs ls hl hwL hwS hP hS
    exact lv_irem hx hb hd h.1 (h.2 H locs ls hl hwL (all_cons trivial (all_tl (all_tl hwS))) hP hS)
  | 31, h, hd, hs, hv, hmm =>
    obtain ⟨y, x, S', rfl, h9⟩ := pJJ_ex h
    clear h
    have h := h9
    intro H locs ls hl hwL hwS hP hS
    exact lv_ladd hx hb hd (h H locs ls hl hwL (all_cons trivial (all_tl (all_tl hwS))) hP hS)
  | 32, h, hd, hs, hv, hmm =>
    obtain ⟨y, x, S', rfl, h9⟩ := pJJ_ex h
    clear h
    have h := h9
    intro H locs ls hl hwL hwS hP hS
    exact lv_lmul hx hb hd (h H locs ls hl hwL (all_cons trivial (all_tl (all_tl hwS))) hP hS)
  | 33, h, hd, hs, hv, hmm =>
    obtain ⟨y, x, S', rfl, h9⟩ := pJJ_ex h
    clear h
    have h := h9
    intro H locs ls hl hwL hwS hP hS
    exact lv_ldiv hx hb hd h.1 (h.2 H locs ls hl hwL (all_cons trivial (all_tl (all_tl hwS))) hP hS)
  | 34, h, hd, hs, hv, hmm =>
    obtain ⟨y, x, S', rfl, h9⟩ := pJJ_ex h
    clear h
    have h := h9
    intro H locs ls hl hwL hwS hP hS
    exact lv_lrem hx hb hd h.1 (h.2 H locs ls hl hwL (all_cons trivial (all_tl (all_tl hwS))) hP hS)
  | 35, h, hd, hs, hv, hmm =>
    obtain ⟨y, x, S', rfl, h9⟩ := pJJ_ex h
    clear h
    have h := h9
    intro H locs ls hl hwL hwS hP hS
    exact W.lcmp hx hb hd (h H locs ls hl hwL (all_cons trivial (all_tl (all_tl hwS))) hP hS)
  | 24, h, hd, hs, hv, hmm =>
    obtain ⟨x, S', rfl, h9⟩ := pI_ex h
    clear h
    have h := h9
    intro H locs ls hl hwL hwS hP hS
    exact lv_ineg hx hb hd (h H locs ls hl hwL (all_cons trivial (all_tl hwS)) hP hS)
  | 36, h, hd, hs, hv, hmm =>
    obtain ⟨x, S', rfl, h9⟩ := pI_ex h
    clear h
    have h := h9
    intro H locs ls hl hwL hwS hP hS
    exact lv_i2l hx hb hd rfl (h H locs ls hl hwL (all_cons trivial (all_tl hwS)) hP hS)
  | 37, h, hd, hs, hv, hmm =>
    obtain ⟨v, S', rfl, hvJ, h9⟩ := pV_ex (S := S) (k := fun v S => Wt p l e R s m args below meth c cells slots Q D ad b cI cB nL sc E.2.2.2.2.1 A H0 (pc + 1) L (v :: v :: S) μ) h
    clear h
    have h := h9
    intro H locs ls hl hwL hwS hP hS
    exact lv_dup hx hb hd (tv_cat hvJ) (h H locs ls hl hwL (all_cons (all_hd hwS) hwS) hP hS)
  | 38, h, hd, hs, hv, hmm =>
    obtain ⟨x, r, S', rfl, h9⟩ := pIR_ex h
    clear h
    have h := h9
    intro H locs ls hl hwL hwS hP hS
    exact lv_dup2_11 hx hb hd rfl (tv_cat (fun x q => by cases q)) (h H locs ls hl hwL (all_cons trivial (all_cons (all_hd (all_tl hwS)) hwS)) hP hS)
  | 39, h, hd, hs, hv, hmm =>
    obtain ⟨x, hr, h9⟩ := ldI_ex h
    clear h
    have h := h9
    intro H locs ls hl hwL hwS hP hS
    obtain ⟨k, hk⟩ := List.getElem?_of_mem (toL_of (ad := ad) (b := b) L 0 a (mI x) hr (by simp))
    rw [Nat.zero_add] at hk
    exact lv_iinc hx hb hd hl.1 hk (by rw [Int32.ofInt_toInt]) (of_decide_eq_true hs) rfl (fun ls' hl' => h H locs ls' (hl.sto1 (of_decide_eq_true hs) (by simp) (by simp) hl') (sto_wt hwL trivial) hwS hP hS)
  | 40, h, hd, hs, hv, hmm =>
    intro H locs ls hl hwL hwS hP hS
    exact lv_goto hx hb hd (by omega) (h H locs ls hl hwL hwS hP hS)
  | 41, h, hd, hs, hv, hmm =>
    obtain ⟨x, S', rfl, h9⟩ := pI_ex h
    clear h
    have h := h9
    intro H locs ls hl hwL hwS hP hS
    exact lv_if_eq (tgt := a) hx hb hd (by omega) (fun q => by rw [if_pos q] at h; exact h H locs ls hl hwL (all_tl hwS) hP hS) (fun q => by rw [if_neg q] at h; exact h H locs ls hl hwL (all_tl hwS) hP hS)
  | 47, h, hd, hs, hv, hmm =>
    obtain ⟨y, x, S', rfl, h9⟩ := pII_ex h
    clear h
    have h := h9
    intro H locs ls hl hwL hwS hP hS
    exact lv_icmp_eq (tgt := a) hx hb hd (by omega) (fun q => by rw [if_pos q] at h; exact h H locs ls hl hwL (all_tl (all_tl hwS)) hP hS) (fun q => by rw [if_neg q] at h; exact h H locs ls hl hwL (all_tl (all_tl hwS)) hP hS)
  | 42, h, hd, hs, hv, hmm =>
    obtain ⟨x, S', rfl, h9⟩ := pI_ex h
    clear h
    have h := h9
    intro H locs ls hl hwL hwS hP hS
    exact lv_if_ne (tgt := a) hx hb hd (by omega) (fun q => by rw [if_neg q] at h; exact h H locs ls hl hwL (all_tl hwS) hP hS) (fun q => by rw [if_pos q] at h; exact h H locs ls hl hwL (all_tl hwS) hP hS)
  | 48, h, hd, hs, hv, hmm =>
    obtain ⟨y, x, S', rfl, h9⟩ := pII_ex h
    clear h
    have h := h9
    intro H locs ls hl hwL hwS hP hS
    exact lv_icmp_ne (tgt := a) hx hb hd (by omega) (fun q => by rw [if_neg q] at h; exact h H locs ls hl hwL (all_tl (all_tl hwS)) hP hS) (fun q => by rw [if_pos q] at h; exact h H locs ls hl hwL (all_tl (all_tl hwS)) hP hS)
  | 43, h, hd, hs, hv, hmm =>
    obtain ⟨x, S', rfl, h9⟩ := pI_ex h
    clear h
    have h := h9
    intro H locs ls hl hwL hwS hP hS
    exact lv_if_lt (tgt := a) hx hb hd (by omega) (fun q => by rw [if_pos q] at h; exact h H locs ls hl hwL (all_tl hwS) hP hS) (fun q => by rw [if_neg q] at h; exact h H locs ls hl hwL (all_tl hwS) hP hS)
  | 49, h, hd, hs, hv, hmm =>
    obtain ⟨y, x, S', rfl, h9⟩ := pII_ex h
    clear h
    have h := h9
    intro H locs ls hl hwL hwS hP hS
    exact lv_icmp_lt (tgt := a) hx hb hd (by omega) (fun q => by rw [if_pos q] at h; exact h H locs ls hl hwL (all_tl (all_tl hwS)) hP hS) (fun q => by rw [if_neg q] at h; exact h H locs ls hl hwL (all_tl (all_tl hwS)) hP hS)
  | 44, h, hd, hs, hv, hmm =>
    obtain ⟨x, S', rfl, h9⟩ := pI_ex h
    clear h
    have h := h9
    intro H locs ls hl hwL hwS hP hS
    exact lv_if_ge (tgt := a) hx hb hd (by omega) (fun q => by rw [if_pos q] at h; exact h H locs ls hl hwL (all_tl hwS) hP hS) (fun q => by rw [if_neg q] at h; exact h H locs ls hl hwL (all_tl hwS) hP hS)
  | 50, h, hd, hs, hv, hmm =>
    obtain ⟨y, x, S', rfl, h9⟩ := pII_ex h
    clear h
    have h := h9
    intro H locs ls hl hwL hwS hP hS
    exact lv_icmp_ge (tgt := a) hx hb hd (by omega) (fun q => by rw [if_pos q] at h; exact h H locs ls hl hwL (all_tl (all_tl hwS)) hP hS) (fun q => by rw [if_neg q] at h; exact h H locs ls hl hwL (all_tl (all_tl hwS)) hP hS)
  | 45, h, hd, hs, hv, hmm =>
    obtain ⟨x, S', rfl, h9⟩ := pI_ex h
    clear h
    have h := h9
    intro H locs ls hl hwL hwS hP hS
    exact lv_if_gt (tgt := a) hx hb hd (by omega) (fun q => by rw [if_pos q] at h; exact h H locs ls hl hwL (all_tl hwS) hP hS) (fun q => by rw [if_neg q] at h; exact h H locs ls hl hwL (all_tl hwS) hP hS)
  | 51, h, hd, hs, hv, hmm =>
    obtain ⟨y, x, S', rfl, h9⟩ := pII_ex h
    clear h
    have h := h9
    intro H locs ls hl hwL hwS hP hS
    exact lv_icmp_gt (tgt := a) hx hb hd (by omega) (fun q => by rw [if_pos q] at h; exact h H locs ls hl hwL (all_tl (all_tl hwS)) hP hS) (fun q => by rw [if_neg q] at h; exact h H locs ls hl hwL (all_tl (all_tl hwS)) hP hS)
  | 46, h, hd, hs, hv, hmm =>
    obtain ⟨x, S', rfl, h9⟩ := pI_ex h
    clear h
    have h := h9
    intro H locs ls hl hwL hwS hP hS
    exact lv_if_le (tgt := a) hx hb hd (by omega) (fun q => by rw [if_pos q] at h; exact h H locs ls hl hwL (all_tl hwS) hP hS) (fun q => by rw [if_neg q] at h; exact h H locs ls hl hwL (all_tl hwS) hP hS)
  | 52, h, hd, hs, hv, hmm =>
    obtain ⟨y, x, S', rfl, h9⟩ := pII_ex h
    clear h
    have h := h9
    intro H locs ls hl hwL hwS hP hS
    exact lv_icmp_le (tgt := a) hx hb hd (by omega) (fun q => by rw [if_pos q] at h; exact h H locs ls hl hwL (all_tl (all_tl hwS)) hP hS) (fun q => by rw [if_neg q] at h; exact h H locs ls hl hwL (all_tl (all_tl hwS)) hP hS)
  | 53, h, hd, hs, hv, hmm =>
    obtain ⟨r, S', rfl, h9⟩ := pR_ex h
    clear h
    have h := h9
    intro H locs ls hl hwL hwS hP hS
    obtain ⟨z, hz⟩ := tv_ref ad b r
    rw [List.map_cons, hz]
    exact lv_ifnull hx hb hd (h H locs ls hl hwL (all_tl hwS) hP hS)
  | 54, h, hd, hs, hv, hmm =>
    obtain ⟨r, S', rfl, h9⟩ := pR_ex h
    clear h
    have h := h9
    intro H locs ls hl hwL hwS hP hS
    obtain ⟨z, hz⟩ := tv_ref ad b r
    rw [List.map_cons, hz]
    exact lv_ifnonnull hx hb hd (by omega) (h H locs ls hl hwL (all_tl hwS) hP hS)
  | 55, h, hd, hs, hv, hmm =>
    obtain ⟨t, c0, S', rfl, h9⟩ := pO_ex h
    have hs : sfld own a b' c' = true := hs
    cases ht : Nat.beq t (b' / 32) with
    | false => rw [ht] at h9; exact h9.elim
    | true =>
      rw [ht, cond_true] at h9
      have ht := Nat.eq_of_beq_eq_true ht
      subst ht
      obtain ⟨q, hq, hk, hw⟩ := sfld_ex hs
      obtain ⟨ty0, hin, hty, hnm, hlen, hknd⟩ := cls_ok _ _ hq
      have hlink := hts _ (mem_g hw rfl)
      intro H locs ls hl hwL hwS hP hS
      obtain ⟨hly, htl⟩ : lyL[c0]? = some (b' / 32, 0) ∧ b' / 32 < 10 := hwS (mO (b' / 32) c0) (by simp)
      have h1 := h9 H locs ls hl hwL (all_cons (lay_wt hly htl (by rw [hlen]; exact hk)) (all_tl hwS)) hP hS
      rw [List.map_cons, tv_mF] at h1
      exact va_get hx hb hts hin hown hK hP c0 ((wl_get hly).trans (by rw [cE_obj htl])) hq (b' % 32) hk hlink (fun _ h9 => h9) (fs_get (by rw [hlen]; exact hk)) hd h1
  | 56, h, hd, hs, hv, hmm =>
    obtain ⟨x, t, c0, S', rfl, h9⟩ := pIO_ex h
    have hs : sfld own a b' c' = true := hs
    cases ht : Nat.beq t (b' / 32) with
    | false => rw [ht] at h9; exact h9.elim
    | true =>
      rw [ht, cond_true] at h9
      have ht := Nat.eq_of_beq_eq_true ht
      subst ht
      obtain ⟨q, hq, hk, hw⟩ := sfld_ex hs
      obtain ⟨ty0, hin, hty, hnm, hlen, hknd⟩ := cls_ok _ _ hq
      have hlink := hts _ (mem_g hw rfl)
      intro H locs ls hl hwL hwS hP hS
      obtain ⟨hly, htl⟩ : lyL[c0]? = some (b' / 32, 0) ∧ b' / 32 < 10 := hwS (mO (b' / 32) c0) (by simp)
      have hge := (wl_get (ad := ad) (cI := cI) (cB := cB) (μ := μ) hly).trans (by rw [cE_obj htl])
      have hset : ∀ hk01 : (fo (b' / 32) (b' % 32)).1 = 0 ∨ (fo (b' / 32) (b' % 32)).1 = 1, (wl ad cI cB μ).set c0 (ad c0, .inr (b' / 32, (fsO ad μ c0 (b' / 32)).set (b' % 32) (.int x))) = wl ad cI cB (mS μ c0 (b' % 32) x) := fun hk01 => wl_set hly (by rw [cE_obj htl, fs_set (by rw [hlen]; exact hk) hk01])
      have hfl : b' % 32 < (fsO ad μ c0 (b' / 32)).length := by unfold fsO; rw [List.length_mapIdx, hlen]; exact hk
      rcases ptF_ex h9 with ⟨e0, h8⟩ | ⟨e0, hz, h8⟩
      · obtain ⟨ht0, hf0⟩ := (hknd _ hk).1 e0
        exact va_put hx hb hts hin ty0 hty hnm hown hK hP (hD μ) hS c0 hge hq (b' % 32) hk hlink (fun _ h9 => h9) hf0 (v := .int x) (ty := .int) (by rw [hty _ hk, ht0]) rfl rfl hfl hd (fun H1 locs1 hP1 _ hS1 => h8 H1 locs1 ls hl hwL (all_tl (all_tl hwS)) (by rw [hset (Or.inl e0)] at hP1; exact hP1) hS1)
      · obtain ⟨ht0, hf0⟩ := (hknd _ hk).2 e0
        exact va_put hx hb hts hin ty0 hty hnm hown hK hP (hD μ) hS c0 hge hq (b' % 32) hk hlink (fun _ h9 => h9) hf0 (v := .int x) (ty := .boolean) (by rw [hty _ hk, ht0]) (zb_narrow hz) (zb_fits hz) hfl hd (fun H1 locs1 hP1 _ hS1 => h8 H1 locs1 ls hl hwL (all_tl (all_tl hwS)) (by rw [hset (Or.inr e0)] at hP1; exact hP1) hS1)
  | 57, h, hd, hs, hv, hmm =>
    rcases pIA_ex h with ⟨i, n, c0, S', rfl, h9⟩ | ⟨i, z1, z2, S', rfl, h9⟩
    · clear h
      have h := h9
      intro H locs ls hl hwL hwS hP hS
      have hly : lyL[c0]? = some (20, n) := hwS (mA n c0) (by simp)
      exact va_iald hx hb hK hP c0 0 (wl_get hly) rfl (vi_in h.1) hd (h.2 H locs ls hl hwL (all_cons trivial (all_tl (all_tl hwS))) hP hS)
    · clear h
      have h := h9
      intro H locs ls hl hwL hwS hP hS
      have hz : sc = true := hwS (mR 3 z1 z2) (by simp)
      obtain ⟨hX, hbl, hbA⟩ := hsc hz
      exact va_sld hx hb hX hbl hbA hS (vi_in h.1) hd (h.2 H locs ls hl hwL (all_cons trivial (all_tl (all_tl hwS))) hP hS)
  | 58, h, hd, hs, hv, hmm =>
    obtain ⟨x, i, n, c0, S', rfl, h9⟩ := pIIA_ex h
    clear h
    have h := h9
    intro H locs ls hl hwL hwS hP hS
    have hly : lyL[c0]? = some (20, n) := hwS (mA n c0) (by simp)
    exact va_iast hx hb hK hP (hD μ) hS c0 0 (wl_get hly) rfl (vi_in h.1) hd (fun H1 locs1 hP1 _ hS1 => h.2 H1 locs1 ls hl hwL (all_tl (all_tl (all_tl hwS))) (by rw [wl_set (x := x) (k := i.toNatClampNeg) hly (by rw [upd_mS]; rfl)] at hP1; exact hP1) hS1)
  | 59, h, hd, hs, hv, hmm =>
    obtain ⟨i, n, c0, S', rfl, h9⟩ := pIZ_ex h
    clear h
    have h := h9
    intro H locs ls hl hwL hwS hP hS
    have hly : lyL[c0]? = some (21, n) := (show 2 = 2 ∧ lyL[c0]? = some (21, n) from hwS (mZ n c0) (by simp)).2
    exact va_zald hx hb hK hP c0 1 (wl_get hly) rfl (vi_in h.1) hd (h.2 H locs ls hl hwL (all_cons trivial (all_tl (all_tl hwS))) hP hS)
  | 60, h, hd, hs, hv, hmm =>
    obtain ⟨x, i, n, c0, S', rfl, h9⟩ := pIIZ_ex h
    clear h
    have h := h9
    intro H locs ls hl hwL hwS hP hS
    have hly : lyL[c0]? = some (21, n) := (show 2 = 2 ∧ lyL[c0]? = some (21, n) from hwS (mZ n c0) (by simp)).2
    exact va_zast hx hb hK hP (hD μ) hS c0 1 (wl_get hly) rfl (vi_in h.1.2) hd (fun H1 locs1 hP1 _ hS1 => h.2 H1 locs1 ls hl hwL (all_tl (all_tl (all_tl hwS))) (by rw [zb_nar h.1.1, wl_set (x := x) (k := i.toNatClampNeg) hly (by rw [upd_mS]; rfl)] at hP1; exact hP1) hS1)
  | 61, h, hd, hs, hv, hmm =>
    rcases pA_ex h with ⟨n, c0, S', rfl, h9⟩ | ⟨z1, z2, S', rfl, h9⟩
    · clear h
      have h := h9
      intro H locs ls hl hwL hwS hP hS
      have hly : lyL[c0]? = some (20, n) := hwS (mA n c0) (by simp)
      exact va_alen hx hb hK hP c0 0 (wl_get hly) (ty := .int) rfl (v := nI n) rfl hd (h H locs ls hl hwL (all_cons trivial (all_tl hwS)) hP hS)
    · clear h
      have h := h9
      intro H locs ls hl hwL hwS hP hS
      have hz : sc = true := hwS (mR 3 z1 z2) (by simp)
      obtain ⟨hX, hbl, hbA⟩ := hsc hz
      exact va_slen hx hb hX hbl hbA hS hd (h H locs ls hl hwL (all_cons trivial (all_tl hwS)) hP hS)
  | 62, h, hd, hs, hv, hmm =>
    exact cll_sound (K := K) hx hb hml hown hts hK hN hA hD hroom hcl hsc (Or.inl hd) (fun ce hce => ⟨fun _ => vck_v hv hce, fun _ => hd⟩) h
  | 63, h, hd, hs, hv, hmm =>
    exact cll_sound (K := K) hx hb hml hown hts hK hN hA hD hroom hcl hsc (Or.inr hd) (fun ce hce => ⟨fun z => (by rw [show decode cc pc = .ok (.invokestatic a, 3) from hd] at z; cases z), fun z => absurd (vck_s hv hce) z⟩) h
  | 64, h, hd, hs, hv, hmm =>
    obtain ⟨x, rfl, h9⟩ := rI_ex h
    rcases h9 with ⟨e, h⟩ | ⟨e, h⟩
    · intro H locs ls hl hwL hwS hP hS
      exact hret (mI x) μ H locs ls pc _ hd h hP hS trivial (by rw [e]; exact ⟨rfl, x, rfl⟩)
    · intro H locs ls hl hwL hwS hP hS
      exact hret (mI x) μ H locs ls pc _ hd h.2 hP hS trivial (by rw [e]; exact ⟨rfl, x, rfl, h.1⟩)
  | 65, h, hd, hs, hv, hmm =>
    obtain ⟨x, rfl, e, h9⟩ := rJ_ex h
    clear h
    have h := h9
    intro H locs ls hl hwL hwS hP hS
    exact hret (mJ x) μ H locs ls pc _ hd h hP hS trivial (by rw [e]; exact ⟨rfl, x, rfl⟩)
  | 66, h, hd, hs, hv, hmm =>
    obtain ⟨rfl, e, h9⟩ := rV_ex h
    clear h
    have h := h9
    intro H locs ls hl hwL hwS hP hS
    exact hret mU μ H locs ls pc _ hd h hP hS trivial (by rw [e]; exact ⟨rfl, rfl⟩)
  | 67, h, hd, hs, hv, hmm =>
    obtain ⟨c0, rfl, e, h9⟩ := rO_ex h
    clear h
    have h := h9
    intro H locs ls hl hwL hwS hP hS
    exact hret (mO E.2.2.2.1 c0) μ H locs ls pc _ hd h hP hS (all_hd hwS) (by rw [e]; exact ⟨rfl, c0, rfl⟩)
  | 68, h, hd, hs, hv, hmm =>
    obtain ⟨x, S', rfl, h9⟩ := pI_ex h
    clear h
    have h := h9
    intro H locs ls hl hwL hwS hP hS
    have hkey : ∀ i, i < J.length → (J.getD i (0, 0)).1.toInt = (J.headD (0, 0)).1.toInt + i := fun i hi => of_decide_eq_true (List.all_eq_true.mp hs i (List.mem_range.mpr hi))
    rcases swt_tbl h with ⟨i, q, h1, h2, h3⟩ | ⟨h1, h3⟩
    · have hi : i < J.length := (List.getElem?_eq_some_iff.mp h1).1
      have e1 := hkey i hi
      rw [List.getD_eq_getElem?_getD, h1, Option.getD_some] at e1
      refine lv_tableIn (tgt := q.2) (off := (q.2 : Int) - pc) hx hb hd (by rw [h2, e1]; omega) (by rw [h2, e1]; omega) ?_ (by omega) (h3 H locs ls hl hwL (all_tl hwS) hP hS)
      rw [h2, e1, show ((J.headD (0, 0)).1.toInt + (i : Int) - (J.headD (0, 0)).1.toInt).toNat = i by omega]
      simp [h1]
    · refine lv_tableOut (tgt := a) hx hb hd ?_ (by omega) (h3 H locs ls hl hwL (all_tl hwS) hP hS)
      rcases Int.lt_or_le x.toInt (J.headD (0, 0)).1.toInt with z | z
      · exact Or.inl z
      · rcases Int.lt_or_le ((J.headD (0, 0)).1.toInt + J.length - 1) x.toInt with z2 | z2
        · exact Or.inr z2
        · exfalso
          have hi : (x.toInt - (J.headD (0, 0)).1.toInt).toNat < J.length := by omega
          have e1 := hkey _ hi
          have e2 := List.getElem?_eq_getElem hi
          rw [List.getD_eq_getElem?_getD, e2, Option.getD_some] at e1
          exact h1 _ (List.mem_of_getElem? e2) (Int32.toInt_inj.mp (by omega))
  | 69, h, hd, hs, hv, hmm =>
    obtain ⟨x, S', rfl, h9⟩ := pI_ex h
    clear h
    have h := h9
    intro H locs ls hl hwL hwS hP hS
    obtain ⟨t, h3, h4⟩ := swt_lku (pc := pc) h
    refine lv_lookup (tgt := t) hx hb hd ?_ h4 (by omega) (h3 H locs ls hl hwL (all_tl hwS) hP hS)
    exact srt_ok hs
  | 70, h, hd, hs, hv, hmm =>
    obtain ⟨y, x, S', rfl, h9⟩ := pII_ex h
    clear h
    intro H locs ls hl hwL hwS hP hS
    cases hct : Nat.ble (ctS S') 8 with
    | false => rw [hct] at h9; exact h9.elim
    | true =>
      rw [hct, cond_true] at h9
      have hct := Nat.le_of_ble_eq_true hct
      have hR := hmm (Nat.le_of_ble_eq_true rfl)
      have hcs := ctS_sum (ad := ad) (b := b) S'
      exact va_mmin hx hb (hml.trans hl.1.1.symm) hown (hts _ (mem_g (of_decide_eq_true hs) rfl)) (hts _ w_min.1) (hts _ w_min.2.1) (hts _ w_min.2.2) hR.1 (by omega) hroom.1 hroom.2 hd (h9 H locs ls hl hwL (all_cons trivial (all_tl (all_tl hwS))) hP hS)
  | 71, h, hd, hs, hv, hmm =>
    obtain ⟨y, x, S', rfl, h9⟩ := pII_ex h
    clear h
    intro H locs ls hl hwL hwS hP hS
    cases hct : Nat.ble (ctS S') 8 with
    | false => rw [hct] at h9; exact h9.elim
    | true =>
      rw [hct, cond_true] at h9
      have hct := Nat.le_of_ble_eq_true hct
      have hR := hmm (Nat.le_of_ble_eq_true rfl)
      have hcs := ctS_sum (ad := ad) (b := b) S'
      exact va_mmax hx hb (hml.trans hl.1.1.symm) hown (hts _ (mem_g (of_decide_eq_true hs) rfl)) (hts _ w_max.1) (hts _ w_max.2.1) (hts _ w_max.2.2) hR.1 (by omega) hroom.1 hroom.2 hd (h9 H locs ls hl hwL (all_cons trivial (all_tl (all_tl hwS))) hP hS)
  | n + 72, h, hd, hs, hv, hmm =>
    exact absurd hs (by simp [sid_big])
end
section
/-! ===== a method's contract, out of its table ===== -/
theorem en_len : ∀ (As : List MV) (n : Nat), ctS As ≤ n → (en As n).length = n
  | [], n, _ => by simp [en]
  | v :: vs, n, h => by
    match v, h with
    | .inl x, h =>
      have h : 1 + ctS vs ≤ n := h
      show (en vs (n - 1)).length + 1 = n
      rw [en_len vs (n - 1) (by omega)]; omega
    | .inr (.inl x), h =>
      have h : 2 + ctS vs ≤ n := h
      show (en vs (n - 2)).length + 1 + 1 = n
      rw [en_len vs (n - 2) (by omega)]; omega
    | .inr (.inr x), h =>
      have h : 1 + ctS vs ≤ n := h
      show (en vs (n - 1)).length + 1 = n
      rw [en_len vs (n - 1) (by omega)]; omega
theorem toL_rep {ad : Nat → Nat} {b : Nat} : ∀ (n i : Nat), toL ad b i (List.replicate n mU) = []
  | 0, _ => rfl
  | n + 1, i => by
    rw [List.replicate_succ]
    exact toL_rep n (i + 1)
theorem en_args {ad : Nat → Nat} {b : Nat} : ∀ (As : List MV) (n i : Nat) (q : Nat × Value), q ∈ toL ad b i (en As n) → q ∈ lv_args i (As.map (tv ad b))
  | [], n, i, q, h => by
    rw [show en [] n = List.replicate n mU from rfl, toL_rep] at h
    cases h
  | v :: vs, n, i, q, h => by
    match v, h with
    | .inl x, h =>
      rcases List.mem_cons.mp (show q ∈ (i, Value.int x) :: toL ad b (i + 1) (en vs (n - 1)) from h) with e | e
      · rw [e]; exact List.mem_cons_self
      · exact List.mem_cons_of_mem _ (en_args vs (n - 1) (i + 1) q e)
    | .inr (.inl x), h =>
      rcases List.mem_cons.mp (show q ∈ (i, Value.long x) :: toL ad b (i + 2) (en vs (n - 2)) from h) with e | e
      · rw [e]; exact List.mem_cons_self
      · exact List.mem_cons_of_mem _ (en_args vs (n - 2) (i + 2) q e)
    | .inr (.inr (.inl (k, t, c))), h =>
      have hc : (tv ad b (mR k t c)).category = 1 := tv_cat (fun x q => by cases q)
      have e1 : lv_args i ((mR k t c :: vs).map (tv ad b)) = (i, tv ad b (mR k t c)) :: lv_args (i + 1) (vs.map (tv ad b)) := by
        show (i, tv ad b (mR k t c)) :: lv_args (if (tv ad b (mR k t c)).category = 2 then i + 2 else i + 1) _ = _
        rw [if_neg (by omega)]
      rw [e1]
      rcases List.mem_cons.mp (show q ∈ (i, tv ad b (mR k t c)) :: toL ad b (i + 1) (en vs (n - 1)) from h) with e | e
      · rw [e]; exact List.mem_cons_self
      · exact List.mem_cons_of_mem _ (en_args vs (n - 1) (i + 1) q e)
    | .inr (.inr (.inr _)), h =>
      exact List.mem_cons_of_mem _ (en_args vs (n - 1) (i + 1) q (show q ∈ toL ad b (i + 1) (en vs (n - 1)) from h))
theorem en_noJ : ∀ (As : List MV) (n : Nat), nJ As = true → ∀ (i : Nat) (x : Int64), (en As n)[i]? ≠ some (mJ x)
  | [], n, _, i, x => by
    rw [show en [] n = List.replicate n mU from rfl, List.getElem?_replicate]
    split <;> simp
  | v :: vs, n, h, i, x => by
    match v, h with
    | .inl y, h =>
      cases i with
      | zero => intro e; cases Option.some.inj e
      | succ i => exact en_noJ vs (n - 1) h i x
    | .inr (.inr y), h =>
      cases i with
      | zero => intro e; cases Option.some.inj e
      | succ i => exact en_noJ vs (n - 1) h i x
theorem en_wt {sc : Bool} : ∀ (As : List MV) (n : Nat), (∀ v ∈ As, wtv sc v) → ∀ v ∈ en As n, wtv sc v
  | [], n, _, v, hv => by rw [List.eq_of_mem_replicate (show v ∈ List.replicate n mU from hv)]; trivial
  | w :: vs, n, h, v, hv => by
    match w, h, hv with
    | .inl y, h, hv =>
      rcases List.mem_cons.mp (show v ∈ mI y :: en vs (n - 1) from hv) with e | e
      · rw [e]; trivial
      · exact en_wt vs (n - 1) (all_tl h) v e
    | .inr (.inl y), h, hv =>
      rcases List.mem_cons.mp (show v ∈ mJ y :: mU :: en vs (n - 2) from hv) with e | e
      · rw [e]; trivial
      · rcases List.mem_cons.mp e with e | e
        · rw [e]; trivial
        · exact en_wt vs (n - 2) (all_tl h) v e
    | .inr (.inr y), h, hv =>
      rcases List.mem_cons.mp (show v ∈ .inr (.inr y) :: en vs (n - 1) from hv) with e | e
      · rw [e]; exact all_hd h
      · exact en_wt vs (n - 1) (all_tl h) v e
def rtk (rk : Nat) (ret : Option FieldType) : Bool := match rk with
  | 0 => decide (ret = none)
  | 1 => decide (ret = some .int)
  | 2 => decide (ret = some .long)
  | 3 => (match ret with
    | some (.object _) => true
    | _ => false)
  | 4 => decide (ret = some .boolean)
  | _ => false
/-- the kind of a call of a method that answers so -/
def kof (rk : Nat) : Nat := bif Nat.beq rk 4 then 1 else rk
def chkE (E : Ev) (cc : ByteArray) (own : String) (nL : Nat) (ret : Option FieldType) : Bool := E.1.all (fun q => chk cc own nL q && vck E q.2) && (rtk E.2.2.1 ret && decide (plainName own = true))
set_option maxHeartbeats 4000000 in
theorem con_of (l : Launch) (E : Ev) (y : MethodName) (cc : ByteArray) (nL : Nat) (ret : Option FieldType) (rm : Room) (hch : chkE E cc y.cls nL ret = true) (hcl : ∀ q ∈ E.2.1, ClOK l rm y.cls q.1 q.2) (hmm : E.1.all (fun q => Nat.blt q.2.1 70) = true ∨ (1 ≤ rm.frames ∧ 21 ≤ rm.locals)) : Con l y cc nL ret rm (kof E.2.2.1) E.2.2.2.1 (spc E nL) := by
  intro D ad cI cB As μ0 K sz hwA hsp
  simp only [chkE, Bool.and_eq_true, decide_eq_true_eq, List.all_eq_true] at hch
  obtain ⟨hcode, hrt, hpl⟩ := hch
  unfold spc at hsp
  cases hbb : (Nat.ble (ctS As) nL && (E.2.2.2.2.1 || nJ As)) with
  | false => rw [hbb] at hsp; exact hsp.elim
  | true =>
    rw [hbb, cond_true] at hsp
    simp only [Bool.and_eq_true, Bool.or_eq_true] at hbb
    have hct := Nat.le_of_ble_eq_true hbb.1
    refine Met.ofW (cc := cc) (maxL := nL) (ret := ret) hpl rfl ?_
    intro p e s m args below meth c s₁ B hml hv
    obtain ⟨rfl, hsz, hP, hK, hD0, hN⟩ := hv
    have hx := B.exec
    have hb := B.bytes
    have hr := B.returns
    have hts0 := atoms_spec (ws := Cond.code y cc nL ret :: lw_g) B.pre
    have hts : ∀ w ∈ lw_g, w.before (As.map (tv ad 0)).toArray s = true := fun w hw => hts0 w (List.mem_cons_of_mem _ hw)
    have hown : s.vm.findClass y.cls = some m.cls := findClass_of_methodNamed B.named
    have hlocks := B.notSynchronized
    subst hsz
    have hDA : ∀ μ, va_D (va_A (wl ad cI cB μ0) s.heap.size) (wl ad cI cB μ) := fun μ => wl_D (hD0.self (sz := s.heap.size)) μ
    generalize hAe : va_A (wl ad cI cB μ0) s.heap.size = A at hDA ⊢
    have hA : ∀ q : Nat, s.heap.size ≤ q → A q := fun q h => by rw [← hAe]; exact Or.inr h
    have hl0 := lv_entry (As.map (tv ad 0)) (n := nL) (by
      have e : (lg_sl (As.map (tv ad 0))).length = ctS As := by
        clear hwA hsp hbb hct hP hK hD0 hN hx hb hr hts0 hts hown hlocks hDA hA hAe B hml hrt hcode hcl
        induction As with
        | nil => rfl
        | cons v vs ih =>
          have e2 : (lg_sl ((v :: vs).map (tv ad 0))).length = (tv ad 0 v).category + (lg_sl (vs.map (tv ad 0))).length := by
            unfold lg_sl
            rw [List.map_cons, List.flatMap_cons, List.length_append]
            congr 1
            rcases lv_cat (tv ad 0 v) with h | h <;> rw [h] <;> simp
          rw [e2, ih]
          have := ctS_sum (ad := ad) (b := 0) [v]
          match v with
          | .inl x => rfl
          | .inr (.inl x) => rfl
          | .inr (.inr (.inl (k, t, c))) => rw [tv_cat (fun x h => by cases h)]; rfl
          | .inr (.inr (.inr _)) => rfl
      rw [e]; exact hct)
    rw [lg_entry_eq]
    generalize (lg_sl (As.map (tv ad 0)) ++ List.replicate (nL - (lg_sl (As.map (tv ad 0))).length) Slot.unset).toArray = ls at hl0 ⊢
    have hl : lR ad 0 nL E.2.2.2.2.1 ls (en As nL) := ⟨⟨hl0.1, hl0.2.1, fun q hq => hl0.2.2 q (en_args As nL 0 q hq)⟩, en_len As nL hct, fun e i x => en_noJ As nL (hbb.2.resolve_left (by rw [e]; decide)) i x⟩
    have hret : ∀ (v : MV) (μ : Mm) (H : Heap) (locs : List Loc) (ls : Array Slot) (pc : Nat) (i : Instr), decode cc pc = .ok (i, 1) → K v μ → va_P D vwCl (wl ad cI cB μ) H → va_S A s.heap H locs → wtv false v → rtOK E.2.2.1 E.2.2.2.1 i v → W p l e rm s m (As.map (tv ad 0)).toArray below meth c H locs 0 0 (MQ below (Qk (kof E.2.2.1) E.2.2.2.1 K D ad cI cB A) (As.map (tv ad 0)).toArray s 0 0 A) (F0 m pc ls (rst ad 0 v)) := by
      intro v μ H locs ls pc i hd hKv hPv hSv hwv hrk
      generalize hgr : E.2.2.1 = rk at hrk hrt ⊢
      generalize E.2.2.2.1 = rt at hrk ⊢
      have hwl : ∀ t : State, t.heap = H → s.WarmedH t.vm → wld D ad cI cB A μ t := fun t ht hW => ⟨by rw [ht]; exact hPv, va_K.moved hW.alike hK, hDA μ, nst.warm hW hN⟩
      match rk, hrk, hrt with
      | 0, ⟨hi, hve⟩, hrt =>
        subst hi; subst hve
        exact W.vret hx hb (hr.trans (of_decide_eq_true hrt)) (fun t ht hW => ⟨⟨μ, rfl, hKv, hwl t ht hW⟩, hSv.F ht⟩) hSv.2.2 hd
      | 1, ⟨hi, x, hve⟩, hrt =>
        subst hi; subst hve
        exact W.iret hx hb (hr.trans (of_decide_eq_true hrt)) (fun t ht hW => ⟨⟨x, μ, rfl, hKv, hwl t ht hW⟩, hSv.F ht⟩) hSv.2.2 hd
      | 2, ⟨hi, x, hve⟩, hrt =>
        subst hi; subst hve
        exact W.lret hx hb (hr.trans (of_decide_eq_true hrt)) (fun t ht hW => ⟨⟨x, μ, rfl, hKv, hwl t ht hW⟩, hSv.F ht⟩) hSv.2.2 hd
      | 3, ⟨hi, c0, hve⟩, hrt =>
        subst hi; subst hve
        obtain ⟨nm, hnm⟩ : ∃ nm, ret = some (.object nm) := by
          simp only [rtk] at hrt
          split at hrt
          · exact ⟨_, rfl⟩
          · cases hrt
        exact W.aret hx hb (hr.trans hnm) (Or.inl ⟨nm, rfl⟩) (Or.inr ⟨ad c0, rfl⟩) (fun t ht hW => ⟨⟨(μ, c0), ad c0, rfl, ⟨hKv, hwv⟩, rfl, hwl t ht hW⟩, hSv.F ht⟩) hSv.2.2 hd
      | 4, ⟨hi, x, hve, hz⟩, hrt =>
        subst hi; subst hve
        exact W.zret hx hb (hr.trans (of_decide_eq_true hrt)) (zb_narrow hz) (fun t ht hW => ⟨⟨x, μ, rfl, hKv, hwl t ht hW⟩, hSv.F ht⟩) hSv.2.2 hd
    refine hsp (Wt p l e rm s m (As.map (tv ad 0)).toArray below meth c 0 0 (MQ below (Qk (kof E.2.2.1) E.2.2.2.1 K D ad cI cB A) (As.map (tv ad 0)).toArray s 0 0 A) D ad 0 cI cB nL false E.2.2.2.2.1 A s.heap) ?_ s.heap [] ls hl (en_wt As nL hwA) (fun v hv => by cases hv) hP va_S.rf
    intro pc L S μ hst
    unfold stp at hst
    cases ho : lk E.1 pc with
    | none => rw [ho] at hst; exact hst.elim
    | some o =>
      rw [ho] at hst
      have hc := hcode _ (lk_mem ho)
      obtain ⟨hd, hs⟩ := chk_dec hc.1
      exact opx_sound hx hb hml hown hts hK hN hA hDA ⟨Nat.zero_le _, Nat.zero_le _⟩ (fun a ce hce => hcl _ (lk_mem hce)) (fun z => by cases z) hret hd hs hc.2 (fun h70 => hmm.elim (fun z => absurd (Nat.le_of_ble_eq_true (List.all_eq_true.mp z _ (lk_mem ho))) (by show ¬ (o.1 + 1 ≤ 70); omega)) id) L S μ hst
end
section
/-! ===== printed by program: each method's table, what it does, its contract ===== -/
def calV (y : MethodName) (bt : ByteArray) (mL : Nat) (ret : Option FieldType) (n t : Nat) : Prop := (Cond.code y bt mL ret ∈ lw_g ∧ Cond.initialized y.cls ∈ lw_g) ∧ (y.cls ≠ "java/lang/invoke/MethodHandle" ∧ y.cls ≠ "java/lang/invoke/VarHandle") ∧ (parseMethodDescriptor y.desc).map (fun d => d.parameters.length) = some (n - 1) ∧ 1 ≤ n ∧ Cond.instanceMethod y ∈ lw_g ∧ Cond.selects y.cls y y ∈ lw_g ∧ ∃ q, vwCl[t]? = some q ∧ q.1 = y.cls
def calS (y : MethodName) (bt : ByteArray) (mL : Nat) (ret : Option FieldType) (n : Nat) : Prop := (Cond.code y bt mL ret ∈ lw_g ∧ Cond.initialized y.cls ∈ lw_g) ∧ (y.cls ≠ "java/lang/invoke/MethodHandle" ∧ y.cls ≠ "java/lang/invoke/VarHandle") ∧ (parseMethodDescriptor y.desc).map (fun d => d.parameters.length) = some n ∧ Cond.static y ∈ lw_g
theorem clV {l : Launch} {R rm : Room} {own : String} {idx n kind rt t mL : Nat} {sp : Sp} {y : MethodName} {bt : ByteArray} {ret : Option FieldType} (hk : Con l y bt mL ret rm kind rt sp) (h : calV y bt mL ret n t) (hr : rm.cells = 0 ∧ rm.slots = 0 ∧ rm.frames + 1 ≤ R.frames ∧ 8 + (mL + 11) + rm.locals ≤ R.locals) (hl : Cond.methodLink own idx y ∈ lw_g) : ClOK l R own idx (n, kind, rt, t + 1, sp) :=
  ⟨y, bt, mL, ret, rm, hk, hr, h.1, h.2.1, h.2.2.1, h.2.2.2.1, h.2.2.2.2.1, h.2.2.2.2.2.1, hl, h.2.2.2.2.2.2⟩
theorem clS {l : Launch} {R rm : Room} {own : String} {idx n kind rt mL : Nat} {sp : Sp} {y : MethodName} {bt : ByteArray} {ret : Option FieldType} (hk : Con l y bt mL ret rm kind rt sp) (h : calS y bt mL ret n) (hr : rm.cells = 0 ∧ rm.slots = 0 ∧ rm.frames + 1 ≤ R.frames ∧ 8 + (mL + 11) + rm.locals ≤ R.locals) (hl : Cond.methodLink own idx y ∈ lw_g) : ClOK l R own idx (n, kind, rt, 0, sp) :=
  ⟨y, bt, mL, ret, rm, hk, hr, h.1, h.2.1, h.2.2.1, h.2.2.2, Or.inl hl⟩
theorem clN {l : Launch} {R rm : Room} {own : String} {idx n kind rt mL : Nat} {sp : Sp} {bt : ByteArray} {ret : Option FieldType} (hk : Con l y_within bt mL ret rm kind rt sp) (h : calS y_within bt mL ret n) (hr : rm.cells = 0 ∧ rm.slots = 0 ∧ rm.frames + 1 ≤ R.frames ∧ 8 + (mL + 11) + rm.locals ≤ R.locals) (hl : nstL own idx) : ClOK l R own idx (n, kind, rt, 0, sp) :=
  ⟨y_within, bt, mL, ret, rm, hk, hr, h.1, h.2.1, h.2.2.1, h.2.2.2, Or.inr ⟨rfl, hl⟩⟩
theorem monoE_of {E : Ev} (h : ∀ q ∈ E.2.1, mono q.2.2.2.2.2) : monoE E := fun _ _ hc => h _ (lk_mem hc)
theorem cons_all {α : Type} {p : α → Prop} {x : α} {l : List α} (h : p x) (hl : ∀ y ∈ l, p y) : ∀ y ∈ x :: l, p y := all_cons h hl
theorem nil_all {α : Type} {p : α → Prop} : ∀ y ∈ ([] : List α), p y := fun _ h => absurd h List.not_mem_nil
theorem mg {w : Cond} (i : Nat) (h : decide (lw_tbl[i]? = some w) && goodWord w = true) : w ∈ lw_g := by
  simp only [Bool.and_eq_true, decide_eq_true_eq] at h
  exact mem_g h.1 h.2
def t_X9_within : List (Nat × Ao) := [
  (0, (7, 0, 0, 0, 0, 0, [])),
  (1, (7, 0, 0, 1, 0, 0, [])),
  (2, (49, 0, 0, 14, 0, 0, [])),
  (5, (7, 0, 0, 0, 0, 0, [])),
  (6, (7, 0, 0, 2, 0, 0, [])),
  (7, (51, 0, 0, 14, 0, 0, [])),
  (10, (0, 1, 0, 0, 0, 0, [])),
  (11, (40, 0, 0, 15, 0, 0, [])),
  (14, (0, 0, 0, 0, 0, 0, [])),
  (15, (64, 0, 0, 0, 0, 0, []))]
def e_X9_within : Ev := (t_X9_within, [], 4, 0, false, 0, fun _ => 0)
def s_X9_within : Sp := spc e_X9_within 3
theorem m_X9_within : monoE e_X9_within := monoE_of nil_all
theorem p_X9_within : mono s_X9_within := spc_mono m_X9_within _
theorem k_X9_within (l : Launch) : Con l y_within prog_1_method_35_code 3 (Option.some Jvm.ClassFile.FieldType.boolean) { frames := 0, cells := 0, slots := 0, locals := 0 } 1 0 s_X9_within := con_of l e_X9_within y_within prog_1_method_35_code 3 (Option.some Jvm.ClassFile.FieldType.boolean) _ (by decide +kernel) nil_all (Or.inl (by decide +kernel))
theorem f_X9_within : calS y_within prog_1_method_35_code 3 (Option.some Jvm.ClassFile.FieldType.boolean) 3 := ⟨⟨mem_g (i := 260) (by decide +kernel) rfl, mg 25 (by decide +kernel)⟩, by decide +kernel, by decide +kernel, mg 259 (by decide +kernel)⟩
def y_X8_comes : MethodName := ⟨"ActsPaid$Stage", "comes", "(I)Z"⟩
def t_X8_comes : List (Nat × Ao) := [
  (0, (7, 0, 0, 1, 0, 0, [])),
  (1, (0, 0, 0, 0, 0, 0, [])),
  (2, (1, 7, 0, 0, 0, 0, [])),
  (4, (63, 0, 0, 73, 0, 0, [])),
  (7, (41, 0, 0, 25, 0, 0, [])),
  (10, (9, 0, 0, 0, 0, 0, [])),
  (11, (55, 0, 0, 50, 229, 107, [])),
  (14, (7, 0, 0, 1, 0, 0, [])),
  (15, (29, 0, 0, 0, 0, 0, [])),
  (16, (0, 1, 0, 0, 0, 0, [])),
  (17, (25, 0, 0, 0, 0, 0, [])),
  (18, (41, 0, 0, 25, 0, 0, [])),
  (21, (0, 1, 0, 0, 0, 0, [])),
  (22, (40, 0, 0, 26, 0, 0, [])),
  (25, (0, 0, 0, 0, 0, 0, [])),
  (26, (64, 0, 0, 0, 0, 0, []))]
def e_X8_comes : Ev := (t_X8_comes, [(73, (3, 1, 0, 0, s_X9_within))], 4, 0, false, 0, fun _ => 0)
def s_X8_comes : Sp := spc e_X8_comes 2
theorem m_X8_comes : monoE e_X8_comes := monoE_of (cons_all (p_X9_within) nil_all)
theorem p_X8_comes : mono s_X8_comes := spc_mono m_X8_comes _
theorem k_X8_comes (l : Launch) : Con l y_X8_comes prog_10_method_7_code 2 (Option.some Jvm.ClassFile.FieldType.boolean) { frames := 1, cells := 0, slots := 0, locals := 22 } 1 0 s_X8_comes := con_of l e_X8_comes y_X8_comes prog_10_method_7_code 2 (Option.some Jvm.ClassFile.FieldType.boolean) _ (by decide +kernel) (cons_all (clN (k_X9_within l) f_X9_within ⟨rfl, rfl, Nat.le_of_ble_eq_true rfl, Nat.le_of_ble_eq_true rfl⟩ (by unfold nstL; decide +kernel)) nil_all) (Or.inl (by decide +kernel))
theorem f_X8_comes : calV y_X8_comes prog_10_method_7_code 2 (Option.some Jvm.ClassFile.FieldType.boolean) 2 7 := ⟨⟨mem_g (i := 351) (by decide +kernel) rfl, mg 27 (by decide +kernel)⟩, by decide +kernel, by decide +kernel, by decide, mg 349 (by decide +kernel), mg 350 (by decide +kernel), _, rfl, rfl⟩
def y_X5_at : MethodName := ⟨"ActsPaid$Rows", "at", "([II)I"⟩
def t_X5_at : List (Nat × Ao) := [
  (0, (9, 0, 0, 0, 0, 0, [])),
  (1, (53, 0, 0, 20, 0, 0, [])),
  (4, (7, 0, 0, 1, 0, 0, [])),
  (5, (43, 0, 0, 20, 0, 0, [])),
  (8, (7, 0, 0, 1, 0, 0, [])),
  (9, (9, 0, 0, 0, 0, 0, [])),
  (10, (61, 0, 0, 0, 0, 0, [])),
  (11, (50, 0, 0, 20, 0, 0, [])),
  (14, (9, 0, 0, 0, 0, 0, [])),
  (15, (7, 0, 0, 1, 0, 0, [])),
  (16, (57, 0, 0, 0, 0, 0, [])),
  (17, (40, 0, 0, 21, 0, 0, [])),
  (20, (0, 0, 0, 0, 0, 0, [])),
  (21, (64, 0, 0, 0, 0, 0, []))]
def e_X5_at : Ev := (t_X5_at, [], 1, 0, false, 0, fun _ => 0)
def s_X5_at : Sp := spc e_X5_at 2
theorem m_X5_at : monoE e_X5_at := monoE_of nil_all
theorem p_X5_at : mono s_X5_at := spc_mono m_X5_at _
theorem k_X5_at (l : Launch) : Con l y_X5_at prog_7_method_2_code 2 (Option.some Jvm.ClassFile.FieldType.int) { frames := 0, cells := 0, slots := 0, locals := 0 } 1 0 s_X5_at := con_of l e_X5_at y_X5_at prog_7_method_2_code 2 (Option.some Jvm.ClassFile.FieldType.int) _ (by decide +kernel) nil_all (Or.inl (by decide +kernel))
theorem f_X5_at : calS y_X5_at prog_7_method_2_code 2 (Option.some Jvm.ClassFile.FieldType.int) 2 := ⟨⟨mem_g (i := 314) (by decide +kernel) rfl, mg 35 (by decide +kernel)⟩, by decide +kernel, by decide +kernel, mg 313 (by decide +kernel)⟩
def y_X8_worthPlayed : MethodName := ⟨"ActsPaid$Stage", "worthPlayed", "(II)I"⟩
def t_X8_worthPlayed : List (Nat × Ao) := [
  (0, (9, 0, 0, 0, 0, 0, [])),
  (1, (55, 0, 0, 28, 231, 113, [])),
  (4, (7, 0, 0, 1, 0, 0, [])),
  (5, (1, 6, 0, 0, 0, 0, [])),
  (7, (21, 0, 0, 0, 0, 0, [])),
  (8, (9, 0, 0, 0, 0, 0, [])),
  (9, (55, 0, 0, 24, 230, 110, [])),
  (12, (7, 0, 0, 2, 0, 0, [])),
  (13, (63, 0, 0, 77, 0, 0, [])),
  (16, (19, 0, 0, 0, 0, 0, [])),
  (17, (63, 0, 0, 77, 0, 0, [])),
  (20, (64, 0, 0, 0, 0, 0, []))]
def e_X8_worthPlayed : Ev := (t_X8_worthPlayed, [(77, (2, 1, 0, 0, s_X5_at))], 1, 0, false, 0, fun _ => 0)
def s_X8_worthPlayed : Sp := spc e_X8_worthPlayed 3
theorem m_X8_worthPlayed : monoE e_X8_worthPlayed := monoE_of (cons_all (p_X5_at) nil_all)
theorem p_X8_worthPlayed : mono s_X8_worthPlayed := spc_mono m_X8_worthPlayed _
theorem k_X8_worthPlayed (l : Launch) : Con l y_X8_worthPlayed prog_10_method_11_code 3 (Option.some Jvm.ClassFile.FieldType.int) { frames := 1, cells := 0, slots := 0, locals := 21 } 1 0 s_X8_worthPlayed := con_of l e_X8_worthPlayed y_X8_worthPlayed prog_10_method_11_code 3 (Option.some Jvm.ClassFile.FieldType.int) _ (by decide +kernel) (cons_all (clS (k_X5_at l) f_X5_at ⟨rfl, rfl, Nat.le_of_ble_eq_true rfl, Nat.le_of_ble_eq_true rfl⟩ (mg 365 (by decide +kernel))) nil_all) (Or.inl (by decide +kernel))
theorem f_X8_worthPlayed : calV y_X8_worthPlayed prog_10_method_11_code 3 (Option.some Jvm.ClassFile.FieldType.int) 3 7 := ⟨⟨mem_g (i := 383) (by decide +kernel) rfl, mg 27 (by decide +kernel)⟩, by decide +kernel, by decide +kernel, by decide, mg 381 (by decide +kernel), mg 382 (by decide +kernel), _, rfl, rfl⟩
def y_X8_behind : MethodName := ⟨"ActsPaid$Stage", "behind", "(I)I"⟩
def t_X8_behind : List (Nat × Ao) := [
  (0, (0, 0, 0, 0, 0, 0, [])),
  (1, (13, 0, 0, 2, 0, 0, [])),
  (2, (0, 0, 0, 0, 0, 0, [])),
  (3, (13, 0, 0, 3, 0, 0, [])),
  (4, (0, 0, 0, 0, 0, 0, [])),
  (5, (14, 0, 0, 4, 0, 0, [])),
  (7, (0, 0, 0, 0, 0, 0, [])),
  (8, (14, 0, 0, 5, 0, 0, [])),
  (10, (8, 0, 0, 5, 0, 0, [])),
  (12, (9, 0, 0, 0, 0, 0, [])),
  (13, (55, 0, 0, 9, 224, 88, [])),
  (16, (50, 0, 0, 91, 0, 0, [])),
  (19, (7, 0, 0, 2, 0, 0, [])),
  (20, (9, 0, 0, 0, 0, 0, [])),
  (21, (7, 0, 0, 1, 0, 0, [])),
  (22, (8, 0, 0, 5, 0, 0, [])),
  (24, (62, 0, 0, 81, 0, 0, [])),
  (27, (9, 0, 0, 0, 0, 0, [])),
  (28, (55, 0, 0, 15, 225, 92, [])),
  (31, (20, 0, 0, 0, 0, 0, [])),
  (32, (8, 0, 0, 5, 0, 0, [])),
  (34, (9, 0, 0, 0, 0, 0, [])),
  (35, (55, 0, 0, 18, 226, 97, [])),
  (38, (21, 0, 0, 0, 0, 0, [])),
  (39, (20, 0, 0, 0, 0, 0, [])),
  (40, (19, 0, 0, 0, 0, 0, [])),
  (41, (13, 0, 0, 2, 0, 0, [])),
  (42, (9, 0, 0, 0, 0, 0, [])),
  (43, (55, 0, 0, 47, 227, 101, [])),
  (46, (41, 0, 0, 60, 0, 0, [])),
  (49, (8, 0, 0, 5, 0, 0, [])),
  (51, (9, 0, 0, 0, 0, 0, [])),
  (52, (55, 0, 0, 9, 224, 88, [])),
  (55, (0, 1, 0, 0, 0, 0, [])),
  (56, (20, 0, 0, 0, 0, 0, [])),
  (57, (48, 0, 0, 64, 0, 0, [])),
  (60, (0, 1, 0, 0, 0, 0, [])),
  (61, (40, 0, 0, 65, 0, 0, [])),
  (64, (0, 0, 0, 0, 0, 0, [])),
  (65, (14, 0, 0, 6, 0, 0, [])),
  (67, (8, 0, 0, 6, 0, 0, [])),
  (69, (41, 0, 0, 85, 0, 0, [])),
  (72, (7, 0, 0, 2, 0, 0, [])),
  (73, (7, 0, 0, 3, 0, 0, [])),
  (74, (52, 0, 0, 85, 0, 0, [])),
  (77, (7, 0, 0, 2, 0, 0, [])),
  (78, (13, 0, 0, 3, 0, 0, [])),
  (79, (8, 0, 0, 5, 0, 0, [])),
  (81, (0, 1, 0, 0, 0, 0, [])),
  (82, (19, 0, 0, 0, 0, 0, [])),
  (83, (14, 0, 0, 4, 0, 0, [])),
  (85, (39, 1, 0, 5, 0, 0, [])),
  (88, (40, 0, 0, 10, 0, 0, [])),
  (91, (8, 0, 0, 4, 0, 0, [])),
  (93, (64, 0, 0, 0, 0, 0, []))]
def e_X8_behind : Ev := (t_X8_behind, [(81, (3, 1, 0, 8, s_X8_worthPlayed))], 1, 0, false, 0, fun _ => 0)
def s_X8_behind : Sp := spc e_X8_behind 7
theorem m_X8_behind : monoE e_X8_behind := monoE_of (cons_all (p_X8_worthPlayed) nil_all)
theorem p_X8_behind : mono s_X8_behind := spc_mono m_X8_behind _
theorem k_X8_behind (l : Launch) : Con l y_X8_behind prog_10_method_14_code 7 (Option.some Jvm.ClassFile.FieldType.int) { frames := 2, cells := 0, slots := 0, locals := 43 } 1 0 s_X8_behind := con_of l e_X8_behind y_X8_behind prog_10_method_14_code 7 (Option.some Jvm.ClassFile.FieldType.int) _ (by decide +kernel) (cons_all (clV (k_X8_worthPlayed l) f_X8_worthPlayed ⟨rfl, rfl, Nat.le_of_ble_eq_true rfl, Nat.le_of_ble_eq_true rfl⟩ (mg 380 (by decide +kernel))) nil_all) (Or.inl (by decide +kernel))
theorem f_X8_behind : calV y_X8_behind prog_10_method_14_code 7 (Option.some Jvm.ClassFile.FieldType.int) 2 7 := ⟨⟨mem_g (i := 379) (by decide +kernel) rfl, mg 27 (by decide +kernel)⟩, by decide +kernel, by decide +kernel, by decide, mg 377 (by decide +kernel), mg 378 (by decide +kernel), _, rfl, rfl⟩
def y_X8_price : MethodName := ⟨"ActsPaid$Stage", "price", "(II)I"⟩
def t_X8_price : List (Nat × Ao) := [
  (0, (7, 0, 0, 2, 0, 0, [])),
  (1, (7, 0, 0, 1, 0, 0, [])),
  (2, (21, 0, 0, 0, 0, 0, [])),
  (3, (7, 0, 0, 2, 0, 0, [])),
  (4, (7, 0, 0, 2, 0, 0, [])),
  (5, (0, 1, 0, 0, 0, 0, [])),
  (6, (20, 0, 0, 0, 0, 0, [])),
  (7, (21, 0, 0, 0, 0, 0, [])),
  (8, (0, 2, 0, 0, 0, 0, [])),
  (9, (22, 0, 0, 0, 0, 0, [])),
  (10, (9, 0, 0, 0, 0, 0, [])),
  (11, (55, 0, 0, 18, 226, 97, [])),
  (14, (21, 0, 0, 0, 0, 0, [])),
  (15, (19, 0, 0, 0, 0, 0, [])),
  (16, (64, 0, 0, 0, 0, 0, []))]
def e_X8_price : Ev := (t_X8_price, [], 1, 0, false, 0, fun _ => 0)
def s_X8_price : Sp := spc e_X8_price 3
theorem m_X8_price : monoE e_X8_price := monoE_of nil_all
theorem p_X8_price : mono s_X8_price := spc_mono m_X8_price _
theorem k_X8_price (l : Launch) : Con l y_X8_price prog_10_method_13_code 3 (Option.some Jvm.ClassFile.FieldType.int) { frames := 0, cells := 0, slots := 0, locals := 0 } 1 0 s_X8_price := con_of l e_X8_price y_X8_price prog_10_method_13_code 3 (Option.some Jvm.ClassFile.FieldType.int) _ (by decide +kernel) nil_all (Or.inl (by decide +kernel))
theorem f_X8_price : calV y_X8_price prog_10_method_13_code 3 (Option.some Jvm.ClassFile.FieldType.int) 3 7 := ⟨⟨mem_g (i := 387) (by decide +kernel) rfl, mg 27 (by decide +kernel)⟩, by decide +kernel, by decide +kernel, by decide, mg 385 (by decide +kernel), mg 386 (by decide +kernel), _, rfl, rfl⟩
def y_X8_pays : MethodName := ⟨"ActsPaid$Stage", "pays", "(I)I"⟩
def t_X8_pays : List (Nat × Ao) := [
  (0, (9, 0, 0, 0, 0, 0, [])),
  (1, (7, 0, 0, 1, 0, 0, [])),
  (2, (62, 0, 0, 85, 0, 0, [])),
  (5, (41, 0, 0, 24, 0, 0, [])),
  (8, (9, 0, 0, 0, 0, 0, [])),
  (9, (9, 0, 0, 0, 0, 0, [])),
  (10, (55, 0, 0, 15, 225, 92, [])),
  (13, (9, 0, 0, 0, 0, 0, [])),
  (14, (7, 0, 0, 1, 0, 0, [])),
  (15, (62, 0, 0, 89, 0, 0, [])),
  (18, (62, 0, 0, 93, 0, 0, [])),
  (21, (40, 0, 0, 25, 0, 0, [])),
  (24, (0, 0, 0, 0, 0, 0, [])),
  (25, (64, 0, 0, 0, 0, 0, []))]
def e_X8_pays : Ev := (t_X8_pays, [(85, (2, 1, 0, 8, s_X8_comes)), (89, (2, 1, 0, 8, s_X8_behind)), (93, (3, 1, 0, 8, s_X8_price))], 1, 0, false, 0, fun _ => 0)
def s_X8_pays : Sp := spc e_X8_pays 2
theorem m_X8_pays : monoE e_X8_pays := monoE_of (cons_all (p_X8_comes) (cons_all (p_X8_behind) (cons_all (p_X8_price) nil_all)))
theorem p_X8_pays : mono s_X8_pays := spc_mono m_X8_pays _
theorem k_X8_pays (l : Launch) : Con l y_X8_pays prog_10_method_15_code 2 (Option.some Jvm.ClassFile.FieldType.int) { frames := 3, cells := 0, slots := 0, locals := 69 } 1 0 s_X8_pays := con_of l e_X8_pays y_X8_pays prog_10_method_15_code 2 (Option.some Jvm.ClassFile.FieldType.int) _ (by decide +kernel) (cons_all (clV (k_X8_comes l) f_X8_comes ⟨rfl, rfl, Nat.le_of_ble_eq_true rfl, Nat.le_of_ble_eq_true rfl⟩ (mg 404 (by decide +kernel))) (cons_all (clV (k_X8_behind l) f_X8_behind ⟨rfl, rfl, Nat.le_of_ble_eq_true rfl, Nat.le_of_ble_eq_true rfl⟩ (mg 405 (by decide +kernel))) (cons_all (clV (k_X8_price l) f_X8_price ⟨rfl, rfl, Nat.le_of_ble_eq_true rfl, Nat.le_of_ble_eq_true rfl⟩ (mg 406 (by decide +kernel))) nil_all))) (Or.inl (by decide +kernel))
theorem f_X8_pays : calV y_X8_pays prog_10_method_15_code 2 (Option.some Jvm.ClassFile.FieldType.int) 2 7 := ⟨⟨mem_g (i := 403) (by decide +kernel) rfl, mg 27 (by decide +kernel)⟩, by decide +kernel, by decide +kernel, by decide, mg 401 (by decide +kernel), mg 402 (by decide +kernel), _, rfl, rfl⟩
def y_X5_put : MethodName := ⟨"ActsPaid$Rows", "put", "([III)V"⟩
def t_X5_put : List (Nat × Ao) := [
  (0, (9, 0, 0, 0, 0, 0, [])),
  (1, (53, 0, 0, 18, 0, 0, [])),
  (4, (7, 0, 0, 1, 0, 0, [])),
  (5, (43, 0, 0, 18, 0, 0, [])),
  (8, (7, 0, 0, 1, 0, 0, [])),
  (9, (9, 0, 0, 0, 0, 0, [])),
  (10, (61, 0, 0, 0, 0, 0, [])),
  (11, (50, 0, 0, 18, 0, 0, [])),
  (14, (9, 0, 0, 0, 0, 0, [])),
  (15, (7, 0, 0, 1, 0, 0, [])),
  (16, (7, 0, 0, 2, 0, 0, [])),
  (17, (58, 0, 0, 0, 0, 0, [])),
  (18, (66, 0, 0, 0, 0, 0, []))]
def e_X5_put : Ev := (t_X5_put, [], 0, 0, false, 0, fun _ => 0)
def s_X5_put : Sp := spc e_X5_put 3
theorem m_X5_put : monoE e_X5_put := monoE_of nil_all
theorem p_X5_put : mono s_X5_put := spc_mono m_X5_put _
theorem k_X5_put (l : Launch) : Con l y_X5_put prog_7_method_3_code 3 (Option.none : Option Jvm.ClassFile.FieldType) { frames := 0, cells := 0, slots := 0, locals := 0 } 0 0 s_X5_put := con_of l e_X5_put y_X5_put prog_7_method_3_code 3 (Option.none : Option Jvm.ClassFile.FieldType) _ (by decide +kernel) nil_all (Or.inl (by decide +kernel))
theorem f_X5_put : calS y_X5_put prog_7_method_3_code 3 (Option.none : Option Jvm.ClassFile.FieldType) 3 := ⟨⟨mem_g (i := 271) (by decide +kernel) rfl, mg 35 (by decide +kernel)⟩, by decide +kernel, by decide +kernel, mg 270 (by decide +kernel)⟩
def y_X0_readPayments : MethodName := ⟨"ActsPaid$Chances", "readPayments", "(LActsPaid$Stage;)V"⟩
def t_X0_readPayments : List (Nat × Ao) := [
  (0, (0, 0, 0, 0, 0, 0, [])),
  (1, (13, 0, 0, 2, 0, 0, [])),
  (2, (7, 0, 0, 2, 0, 0, [])),
  (3, (1, 8, 0, 0, 0, 0, [])),
  (5, (50, 0, 0, 27, 0, 0, [])),
  (8, (9, 0, 0, 0, 0, 0, [])),
  (9, (55, 0, 0, 9, 0, 222, [])),
  (12, (7, 0, 0, 2, 0, 0, [])),
  (13, (9, 0, 0, 1, 0, 0, [])),
  (14, (7, 0, 0, 2, 0, 0, [])),
  (15, (62, 0, 0, 15, 0, 0, [])),
  (18, (63, 0, 0, 21, 0, 0, [])),
  (21, (39, 1, 0, 2, 0, 0, [])),
  (24, (40, 0, 0, 2, 0, 0, [])),
  (27, (66, 0, 0, 0, 0, 0, []))]
def e_X0_readPayments : Ev := (t_X0_readPayments, [(15, (2, 1, 0, 8, s_X8_pays)), (21, (3, 0, 0, 0, s_X5_put))], 0, 0, false, 0, fun _ => 0)
def s_X0_readPayments : Sp := spc e_X0_readPayments 3
theorem m_X0_readPayments : monoE e_X0_readPayments := monoE_of (cons_all (p_X8_pays) (cons_all (p_X5_put) nil_all))
theorem p_X0_readPayments : mono s_X0_readPayments := spc_mono m_X0_readPayments _
theorem k_X0_readPayments (l : Launch) : Con l y_X0_readPayments prog_2_method_2_code 3 (Option.none : Option Jvm.ClassFile.FieldType) { frames := 4, cells := 0, slots := 0, locals := 90 } 0 0 s_X0_readPayments := con_of l e_X0_readPayments y_X0_readPayments prog_2_method_2_code 3 (Option.none : Option Jvm.ClassFile.FieldType) _ (by decide +kernel) (cons_all (clV (k_X8_pays l) f_X8_pays ⟨rfl, rfl, Nat.le_of_ble_eq_true rfl, Nat.le_of_ble_eq_true rfl⟩ (mg 614 (by decide +kernel))) (cons_all (clS (k_X5_put l) f_X5_put ⟨rfl, rfl, Nat.le_of_ble_eq_true rfl, Nat.le_of_ble_eq_true rfl⟩ (mg 615 (by decide +kernel))) nil_all)) (Or.inl (by decide +kernel))
theorem f_X0_readPayments : calV y_X0_readPayments prog_2_method_2_code 3 (Option.none : Option Jvm.ClassFile.FieldType) 2 0 := ⟨⟨mem_g (i := 613) (by decide +kernel) rfl, mg 33 (by decide +kernel)⟩, by decide +kernel, by decide +kernel, by decide, mg 611 (by decide +kernel), mg 612 (by decide +kernel), _, rfl, rfl⟩
def y_X0_paidBy : MethodName := ⟨"ActsPaid$Chances", "paidBy", "(I)I"⟩
def t_X0_paidBy : List (Nat × Ao) := [
  (0, (0, 0, 0, 0, 0, 0, [])),
  (1, (13, 0, 0, 2, 0, 0, [])),
  (2, (0, 0, 0, 0, 0, 0, [])),
  (3, (13, 0, 0, 3, 0, 0, [])),
  (4, (7, 0, 0, 3, 0, 0, [])),
  (5, (1, 8, 0, 0, 0, 0, [])),
  (7, (50, 0, 0, 35, 0, 0, [])),
  (10, (7, 0, 0, 1, 0, 0, [])),
  (11, (7, 0, 0, 3, 0, 0, [])),
  (12, (29, 0, 0, 0, 0, 0, [])),
  (13, (0, 1, 0, 0, 0, 0, [])),
  (14, (25, 0, 0, 0, 0, 0, [])),
  (15, (41, 0, 0, 29, 0, 0, [])),
  (18, (7, 0, 0, 2, 0, 0, [])),
  (19, (9, 0, 0, 0, 0, 0, [])),
  (20, (55, 0, 0, 9, 0, 222, [])),
  (23, (7, 0, 0, 3, 0, 0, [])),
  (24, (63, 0, 0, 27, 0, 0, [])),
  (27, (19, 0, 0, 0, 0, 0, [])),
  (28, (13, 0, 0, 2, 0, 0, [])),
  (29, (39, 1, 0, 3, 0, 0, [])),
  (32, (40, 0, 0, 4, 0, 0, [])),
  (35, (7, 0, 0, 2, 0, 0, [])),
  (36, (64, 0, 0, 0, 0, 0, []))]
def e_X0_paidBy : Ev := (t_X0_paidBy, [(27, (2, 1, 0, 0, s_X5_at))], 1, 0, false, 0, fun _ => 0)
def s_X0_paidBy : Sp := spc e_X0_paidBy 4
theorem m_X0_paidBy : monoE e_X0_paidBy := monoE_of (cons_all (p_X5_at) nil_all)
theorem p_X0_paidBy : mono s_X0_paidBy := spc_mono m_X0_paidBy _
theorem k_X0_paidBy (l : Launch) : Con l y_X0_paidBy prog_2_method_3_code 4 (Option.some Jvm.ClassFile.FieldType.int) { frames := 1, cells := 0, slots := 0, locals := 21 } 1 0 s_X0_paidBy := con_of l e_X0_paidBy y_X0_paidBy prog_2_method_3_code 4 (Option.some Jvm.ClassFile.FieldType.int) _ (by decide +kernel) (cons_all (clS (k_X5_at l) f_X5_at ⟨rfl, rfl, Nat.le_of_ble_eq_true rfl, Nat.le_of_ble_eq_true rfl⟩ (mg 620 (by decide +kernel))) nil_all) (Or.inl (by decide +kernel))
theorem f_X0_paidBy : calV y_X0_paidBy prog_2_method_3_code 4 (Option.some Jvm.ClassFile.FieldType.int) 2 0 := ⟨⟨mem_g (i := 619) (by decide +kernel) rfl, mg 33 (by decide +kernel)⟩, by decide +kernel, by decide +kernel, by decide, mg 617 (by decide +kernel), mg 618 (by decide +kernel), _, rfl, rfl⟩
def y_X0_waysOf : MethodName := ⟨"ActsPaid$Chances", "waysOf", "(LActsPaid$Stage;II)J"⟩
def t_X0_waysOf : List (Nat × Ao) := [
  (0, (5, 0, 1, 0, 0, 0, [])),
  (1, (17, 0, 0, 3, 0, 0, [])),
  (2, (0, 0, 0, 0, 0, 0, [])),
  (3, (14, 0, 0, 5, 0, 0, [])),
  (5, (8, 0, 0, 5, 0, 0, [])),
  (7, (1, 8, 0, 0, 0, 0, [])),
  (9, (50, 0, 0, 49, 0, 0, [])),
  (12, (9, 0, 0, 0, 0, 0, [])),
  (13, (8, 0, 0, 5, 0, 0, [])),
  (15, (62, 0, 0, 57, 0, 0, [])),
  (18, (41, 0, 0, 43, 0, 0, [])),
  (21, (11, 0, 0, 3, 0, 0, [])),
  (22, (7, 0, 0, 1, 0, 0, [])),
  (23, (8, 0, 0, 5, 0, 0, [])),
  (25, (29, 0, 0, 0, 0, 0, [])),
  (26, (0, 1, 0, 0, 0, 0, [])),
  (27, (25, 0, 0, 0, 0, 0, [])),
  (28, (41, 0, 0, 36, 0, 0, [])),
  (31, (7, 0, 0, 2, 0, 0, [])),
  (32, (36, 0, 0, 0, 0, 0, [])),
  (33, (40, 0, 0, 41, 0, 0, [])),
  (36, (1, 10, 0, 0, 0, 0, [])),
  (38, (7, 0, 0, 2, 0, 0, [])),
  (39, (20, 0, 0, 0, 0, 0, [])),
  (40, (36, 0, 0, 0, 0, 0, [])),
  (41, (32, 0, 0, 0, 0, 0, [])),
  (42, (17, 0, 0, 3, 0, 0, [])),
  (43, (39, 1, 0, 5, 0, 0, [])),
  (46, (40, 0, 0, 5, 0, 0, [])),
  (49, (11, 0, 0, 3, 0, 0, [])),
  (50, (65, 0, 0, 0, 0, 0, []))]
def e_X0_waysOf : Ev := (t_X0_waysOf, [(57, (2, 1, 0, 8, s_X8_comes))], 2, 0, true, 0, fun _ => 0)
def s_X0_waysOf : Sp := spc e_X0_waysOf 6
theorem m_X0_waysOf : monoE e_X0_waysOf := monoE_of (cons_all (p_X8_comes) nil_all)
theorem p_X0_waysOf : mono s_X0_waysOf := spc_mono m_X0_waysOf _
theorem k_X0_waysOf (l : Launch) : Con l y_X0_waysOf prog_2_method_5_code 6 (Option.some Jvm.ClassFile.FieldType.long) { frames := 2, cells := 0, slots := 0, locals := 43 } 2 0 s_X0_waysOf := con_of l e_X0_waysOf y_X0_waysOf prog_2_method_5_code 6 (Option.some Jvm.ClassFile.FieldType.long) _ (by decide +kernel) (cons_all (clV (k_X8_comes l) f_X8_comes ⟨rfl, rfl, Nat.le_of_ble_eq_true rfl, Nat.le_of_ble_eq_true rfl⟩ (mg 624 (by decide +kernel))) nil_all) (Or.inl (by decide +kernel))
theorem f_X0_waysOf : calS y_X0_waysOf prog_2_method_5_code 6 (Option.some Jvm.ClassFile.FieldType.long) 3 := ⟨⟨mem_g (i := 623) (by decide +kernel) rfl, mg 33 (by decide +kernel)⟩, by decide +kernel, by decide +kernel, mg 622 (by decide +kernel)⟩
def y_J6_bitCount : MethodName := ⟨"java/lang/Integer", "bitCount", "(I)I"⟩
def t_J6_bitCount : List (Nat × Ao) := [
  (0, (7, 0, 0, 0, 0, 0, [])),
  (1, (7, 0, 0, 0, 0, 0, [])),
  (2, (0, 1, 0, 0, 0, 0, [])),
  (3, (30, 0, 0, 0, 0, 0, [])),
  (4, (4, 1431655765, 0, 265, 0, 341, [])),
  (7, (25, 0, 0, 0, 0, 0, [])),
  (8, (20, 0, 0, 0, 0, 0, [])),
  (9, (13, 0, 0, 0, 0, 0, [])),
  (10, (7, 0, 0, 0, 0, 0, [])),
  (11, (4, 858993459, 0, 266, 0, 342, [])),
  (14, (25, 0, 0, 0, 0, 0, [])),
  (15, (7, 0, 0, 0, 0, 0, [])),
  (16, (0, 2, 0, 0, 0, 0, [])),
  (17, (30, 0, 0, 0, 0, 0, [])),
  (18, (4, 858993459, 0, 266, 0, 342, [])),
  (21, (25, 0, 0, 0, 0, 0, [])),
  (22, (19, 0, 0, 0, 0, 0, [])),
  (23, (13, 0, 0, 0, 0, 0, [])),
  (24, (7, 0, 0, 0, 0, 0, [])),
  (25, (7, 0, 0, 0, 0, 0, [])),
  (26, (0, 4, 0, 0, 0, 0, [])),
  (27, (30, 0, 0, 0, 0, 0, [])),
  (28, (19, 0, 0, 0, 0, 0, [])),
  (29, (4, 252645135, 0, 267, 0, 343, [])),
  (32, (25, 0, 0, 0, 0, 0, [])),
  (33, (13, 0, 0, 0, 0, 0, [])),
  (34, (7, 0, 0, 0, 0, 0, [])),
  (35, (7, 0, 0, 0, 0, 0, [])),
  (36, (1, 8, 0, 0, 0, 0, [])),
  (38, (30, 0, 0, 0, 0, 0, [])),
  (39, (19, 0, 0, 0, 0, 0, [])),
  (40, (13, 0, 0, 0, 0, 0, [])),
  (41, (7, 0, 0, 0, 0, 0, [])),
  (42, (7, 0, 0, 0, 0, 0, [])),
  (43, (1, 16, 0, 0, 0, 0, [])),
  (45, (30, 0, 0, 0, 0, 0, [])),
  (46, (19, 0, 0, 0, 0, 0, [])),
  (47, (13, 0, 0, 0, 0, 0, [])),
  (48, (7, 0, 0, 0, 0, 0, [])),
  (49, (1, 63, 0, 0, 0, 0, [])),
  (51, (25, 0, 0, 0, 0, 0, [])),
  (52, (64, 0, 0, 0, 0, 0, []))]
def e_J6_bitCount : Ev := (t_J6_bitCount, [], 1, 0, false, 0, fun _ => 0)
def s_J6_bitCount : Sp := spc e_J6_bitCount 1
theorem m_J6_bitCount : monoE e_J6_bitCount := monoE_of nil_all
theorem p_J6_bitCount : mono s_J6_bitCount := spc_mono m_J6_bitCount _
theorem k_J6_bitCount (l : Launch) : Con l y_J6_bitCount prog_13_method_49_code 1 (Option.some Jvm.ClassFile.FieldType.int) { frames := 0, cells := 0, slots := 0, locals := 0 } 1 0 s_J6_bitCount := con_of l e_J6_bitCount y_J6_bitCount prog_13_method_49_code 1 (Option.some Jvm.ClassFile.FieldType.int) _ (by decide +kernel) nil_all (Or.inl (by decide +kernel))
theorem f_J6_bitCount : calS y_J6_bitCount prog_13_method_49_code 1 (Option.some Jvm.ClassFile.FieldType.int) 1 := ⟨⟨mem_g (i := 340) (by decide +kernel) rfl, mg 36 (by decide +kernel)⟩, by decide +kernel, by decide +kernel, mg 339 (by decide +kernel)⟩
def y_X0_common : MethodName := ⟨"ActsPaid$Chances", "common", "(JJ)J"⟩
def t_X0_common : List (Nat × Ao) := [
  (0, (11, 0, 0, 0, 0, 0, [])),
  (1, (18, 0, 0, 4, 0, 0, [])),
  (3, (11, 0, 0, 2, 0, 0, [])),
  (4, (18, 0, 0, 6, 0, 0, [])),
  (6, (0, 0, 0, 0, 0, 0, [])),
  (7, (14, 0, 0, 8, 0, 0, [])),
  (9, (8, 0, 0, 8, 0, 0, [])),
  (11, (2, 1000, 0, 0, 0, 0, [])),
  (14, (50, 0, 0, 45, 0, 0, [])),
  (17, (12, 0, 0, 6, 0, 0, [])),
  (19, (5, 0, 0, 0, 0, 0, [])),
  (20, (35, 0, 0, 0, 0, 0, [])),
  (21, (41, 0, 0, 45, 0, 0, [])),
  (24, (12, 0, 0, 4, 0, 0, [])),
  (26, (12, 0, 0, 6, 0, 0, [])),
  (28, (34, 0, 0, 0, 0, 0, [])),
  (29, (18, 0, 0, 9, 0, 0, [])),
  (31, (12, 0, 0, 6, 0, 0, [])),
  (33, (18, 0, 0, 4, 0, 0, [])),
  (35, (12, 0, 0, 9, 0, 0, [])),
  (37, (18, 0, 0, 6, 0, 0, [])),
  (39, (39, 1, 0, 8, 0, 0, [])),
  (42, (40, 0, 0, 9, 0, 0, [])),
  (45, (12, 0, 0, 4, 0, 0, [])),
  (47, (65, 0, 0, 0, 0, 0, []))]
def e_X0_common : Ev := (t_X0_common, [], 2, 0, true, 0, fun _ => 0)
def s_X0_common : Sp := spc e_X0_common 11
theorem m_X0_common : monoE e_X0_common := monoE_of nil_all
theorem p_X0_common : mono s_X0_common := spc_mono m_X0_common _
theorem k_X0_common (l : Launch) : Con l y_X0_common prog_2_method_6_code 11 (Option.some Jvm.ClassFile.FieldType.long) { frames := 0, cells := 0, slots := 0, locals := 0 } 2 0 s_X0_common := con_of l e_X0_common y_X0_common prog_2_method_6_code 11 (Option.some Jvm.ClassFile.FieldType.long) _ (by decide +kernel) nil_all (Or.inl (by decide +kernel))
theorem f_X0_common : calS y_X0_common prog_2_method_6_code 11 (Option.some Jvm.ClassFile.FieldType.long) 2 := ⟨⟨mem_g (i := 629) (by decide +kernel) rfl, mg 33 (by decide +kernel)⟩, by decide +kernel, by decide +kernel, mg 628 (by decide +kernel)⟩
def y_X0_comesIn : MethodName := ⟨"ActsPaid$Chances", "comesIn", "(LActsPaid$Stage;III)J"⟩
def t_X0_comesIn : List (Nat × Ao) := [
  (0, (9, 0, 0, 0, 0, 0, [])),
  (1, (9, 0, 0, 1, 0, 0, [])),
  (2, (62, 0, 0, 31, 0, 0, [])),
  (5, (5, 0, 0, 0, 0, 0, [])),
  (6, (18, 0, 0, 5, 0, 0, [])),
  (8, (0, 0, 0, 0, 0, 0, [])),
  (9, (14, 0, 0, 7, 0, 0, [])),
  (11, (8, 0, 0, 7, 0, 0, [])),
  (13, (9, 0, 0, 1, 0, 0, [])),
  (14, (55, 0, 0, 35, 229, 108, [])),
  (17, (51, 0, 0, 60, 0, 0, [])),
  (20, (8, 0, 0, 7, 0, 0, [])),
  (22, (9, 0, 0, 1, 0, 0, [])),
  (23, (55, 0, 0, 35, 229, 108, [])),
  (26, (0, (-1), 0, 0, 0, 0, [])),
  (27, (27, 0, 0, 0, 0, 0, [])),
  (28, (25, 0, 0, 0, 0, 0, [])),
  (29, (42, 0, 0, 54, 0, 0, [])),
  (32, (9, 0, 0, 0, 0, 0, [])),
  (33, (8, 0, 0, 7, 0, 0, [])),
  (35, (62, 0, 0, 39, 0, 0, [])),
  (38, (7, 0, 0, 2, 0, 0, [])),
  (39, (49, 0, 0, 54, 0, 0, [])),
  (42, (12, 0, 0, 5, 0, 0, [])),
  (44, (9, 0, 0, 1, 0, 0, [])),
  (45, (8, 0, 0, 7, 0, 0, [])),
  (47, (7, 0, 0, 3, 0, 0, [])),
  (48, (63, 0, 0, 42, 0, 0, [])),
  (51, (31, 0, 0, 0, 0, 0, [])),
  (52, (18, 0, 0, 5, 0, 0, [])),
  (54, (39, 1, 0, 7, 0, 0, [])),
  (57, (40, 0, 0, 11, 0, 0, [])),
  (60, (5, 0, 1, 0, 0, 0, [])),
  (61, (18, 0, 0, 7, 0, 0, [])),
  (63, (0, 0, 0, 0, 0, 0, [])),
  (64, (14, 0, 0, 9, 0, 0, [])),
  (66, (8, 0, 0, 9, 0, 0, [])),
  (68, (9, 0, 0, 1, 0, 0, [])),
  (69, (55, 0, 0, 35, 229, 108, [])),
  (72, (63, 0, 0, 46, 0, 0, [])),
  (75, (50, 0, 0, 92, 0, 0, [])),
  (78, (12, 0, 0, 7, 0, 0, [])),
  (80, (6, 0, 10, 51, 0, 626, [])),
  (83, (32, 0, 0, 0, 0, 0, [])),
  (84, (18, 0, 0, 7, 0, 0, [])),
  (86, (39, 1, 0, 9, 0, 0, [])),
  (89, (40, 0, 0, 66, 0, 0, [])),
  (92, (12, 0, 0, 5, 0, 0, [])),
  (94, (12, 0, 0, 7, 0, 0, [])),
  (96, (63, 0, 0, 53, 0, 0, [])),
  (99, (18, 0, 0, 9, 0, 0, [])),
  (101, (8, 0, 0, 4, 0, 0, [])),
  (103, (42, 0, 0, 111, 0, 0, [])),
  (106, (12, 0, 0, 5, 0, 0, [])),
  (108, (40, 0, 0, 113, 0, 0, [])),
  (111, (12, 0, 0, 7, 0, 0, [])),
  (113, (18, 0, 0, 11, 0, 0, [])),
  (115, (12, 0, 0, 9, 0, 0, [])),
  (117, (5, 0, 0, 0, 0, 0, [])),
  (118, (35, 0, 0, 0, 0, 0, [])),
  (119, (46, 0, 0, 130, 0, 0, [])),
  (122, (12, 0, 0, 11, 0, 0, [])),
  (124, (12, 0, 0, 9, 0, 0, [])),
  (126, (33, 0, 0, 0, 0, 0, [])),
  (127, (40, 0, 0, 132, 0, 0, [])),
  (130, (12, 0, 0, 11, 0, 0, [])),
  (132, (65, 0, 0, 0, 0, 0, []))]
def e_X0_comesIn : Ev := (t_X0_comesIn, [(31, (2, 0, 0, 1, s_X0_readPayments)), (39, (2, 1, 0, 1, s_X0_paidBy)), (42, (3, 2, 0, 0, s_X0_waysOf)), (46, (1, 1, 0, 0, s_J6_bitCount)), (53, (2, 2, 0, 0, s_X0_common))], 2, 0, true, 0, fun _ => 0)
def s_X0_comesIn : Sp := spc e_X0_comesIn 13
theorem m_X0_comesIn : monoE e_X0_comesIn := monoE_of (cons_all (p_X0_readPayments) (cons_all (p_X0_paidBy) (cons_all (p_X0_waysOf) (cons_all (p_J6_bitCount) (cons_all (p_X0_common) nil_all)))))
theorem p_X0_comesIn : mono s_X0_comesIn := spc_mono m_X0_comesIn _
theorem k_X0_comesIn (l : Launch) : Con l y_X0_comesIn prog_2_method_4_code 13 (Option.some Jvm.ClassFile.FieldType.long) { frames := 5, cells := 0, slots := 0, locals := 112 } 2 0 s_X0_comesIn := con_of l e_X0_comesIn y_X0_comesIn prog_2_method_4_code 13 (Option.some Jvm.ClassFile.FieldType.long) _ (by decide +kernel) (cons_all (clV (k_X0_readPayments l) f_X0_readPayments ⟨rfl, rfl, Nat.le_of_ble_eq_true rfl, Nat.le_of_ble_eq_true rfl⟩ (mg 610 (by decide +kernel))) (cons_all (clV (k_X0_paidBy l) f_X0_paidBy ⟨rfl, rfl, Nat.le_of_ble_eq_true rfl, Nat.le_of_ble_eq_true rfl⟩ (mg 616 (by decide +kernel))) (cons_all (clS (k_X0_waysOf l) f_X0_waysOf ⟨rfl, rfl, Nat.le_of_ble_eq_true rfl, Nat.le_of_ble_eq_true rfl⟩ (mg 621 (by decide +kernel))) (cons_all (clS (k_J6_bitCount l) f_J6_bitCount ⟨rfl, rfl, Nat.le_of_ble_eq_true rfl, Nat.le_of_ble_eq_true rfl⟩ (mg 625 (by decide +kernel))) (cons_all (clS (k_X0_common l) f_X0_common ⟨rfl, rfl, Nat.le_of_ble_eq_true rfl, Nat.le_of_ble_eq_true rfl⟩ (mg 627 (by decide +kernel))) nil_all))))) (Or.inl (by decide +kernel))
theorem f_X0_comesIn : calV y_X0_comesIn prog_2_method_4_code 13 (Option.some Jvm.ClassFile.FieldType.long) 5 0 := ⟨⟨mem_g (i := 609) (by decide +kernel) rfl, mg 33 (by decide +kernel)⟩, by decide +kernel, by decide +kernel, by decide, mg 607 (by decide +kernel), mg 608 (by decide +kernel), _, rfl, rfl⟩
def y_X0_evenings : MethodName := ⟨"ActsPaid$Chances", "evenings", "(LActsPaid$Stage;III)I"⟩
def t_X0_evenings : List (Nat × Ao) := [
  (0, (9, 0, 0, 0, 0, 0, [])),
  (1, (9, 0, 0, 1, 0, 0, [])),
  (2, (62, 0, 0, 31, 0, 0, [])),
  (5, (7, 0, 0, 2, 0, 0, [])),
  (6, (14, 0, 0, 5, 0, 0, [])),
  (8, (0, 0, 0, 0, 0, 0, [])),
  (9, (14, 0, 0, 6, 0, 0, [])),
  (11, (0, 0, 0, 0, 0, 0, [])),
  (12, (14, 0, 0, 7, 0, 0, [])),
  (14, (0, 0, 0, 0, 0, 0, [])),
  (15, (14, 0, 0, 8, 0, 0, [])),
  (17, (8, 0, 0, 8, 0, 0, [])),
  (19, (7, 0, 0, 3, 0, 0, [])),
  (20, (50, 0, 0, 70, 0, 0, [])),
  (23, (1, 75, 0, 0, 0, 0, [])),
  (25, (8, 0, 0, 5, 0, 0, [])),
  (27, (21, 0, 0, 0, 0, 0, [])),
  (28, (1, 74, 0, 0, 0, 0, [])),
  (30, (19, 0, 0, 0, 0, 0, [])),
  (31, (3, 65537, 0, 61, 0, 638, [])),
  (33, (23, 0, 0, 0, 0, 0, [])),
  (34, (14, 0, 0, 5, 0, 0, [])),
  (36, (9, 0, 0, 0, 0, 0, [])),
  (37, (8, 0, 0, 5, 0, 0, [])),
  (39, (2, 256, 0, 0, 0, 0, [])),
  (42, (23, 0, 0, 0, 0, 0, [])),
  (43, (62, 0, 0, 39, 0, 0, [])),
  (46, (14, 0, 0, 9, 0, 0, [])),
  (48, (8, 0, 0, 6, 0, 0, [])),
  (50, (8, 0, 0, 9, 0, 0, [])),
  (52, (19, 0, 0, 0, 0, 0, [])),
  (53, (14, 0, 0, 6, 0, 0, [])),
  (55, (8, 0, 0, 7, 0, 0, [])),
  (57, (8, 0, 0, 9, 0, 0, [])),
  (59, (71, 0, 0, 62, 0, 639, [])),
  (62, (14, 0, 0, 7, 0, 0, [])),
  (64, (39, 1, 0, 8, 0, 0, [])),
  (67, (40, 0, 0, 17, 0, 0, [])),
  (70, (8, 0, 0, 4, 0, 0, [])),
  (72, (42, 0, 0, 80, 0, 0, [])),
  (75, (8, 0, 0, 6, 0, 0, [])),
  (77, (40, 0, 0, 82, 0, 0, [])),
  (80, (8, 0, 0, 7, 0, 0, [])),
  (82, (64, 0, 0, 0, 0, 0, []))]
def e_X0_evenings : Ev := (t_X0_evenings, [(31, (2, 0, 0, 1, s_X0_readPayments)), (39, (2, 1, 0, 1, s_X0_paidBy))], 1, 0, false, 0, fun _ => 0)
def s_X0_evenings : Sp := spc e_X0_evenings 10
theorem m_X0_evenings : monoE e_X0_evenings := monoE_of (cons_all (p_X0_readPayments) (cons_all (p_X0_paidBy) nil_all))
theorem p_X0_evenings : mono s_X0_evenings := spc_mono m_X0_evenings _
theorem k_X0_evenings (l : Launch) : Con l y_X0_evenings prog_2_method_7_code 10 (Option.some Jvm.ClassFile.FieldType.int) { frames := 5, cells := 0, slots := 0, locals := 112 } 1 0 s_X0_evenings := con_of l e_X0_evenings y_X0_evenings prog_2_method_7_code 10 (Option.some Jvm.ClassFile.FieldType.int) _ (by decide +kernel) (cons_all (clV (k_X0_readPayments l) f_X0_readPayments ⟨rfl, rfl, Nat.le_of_ble_eq_true rfl, Nat.le_of_ble_eq_true rfl⟩ (mg 610 (by decide +kernel))) (cons_all (clV (k_X0_paidBy l) f_X0_paidBy ⟨rfl, rfl, Nat.le_of_ble_eq_true rfl, Nat.le_of_ble_eq_true rfl⟩ (mg 616 (by decide +kernel))) nil_all)) (Or.inr (by decide))
theorem f_X0_evenings : calV y_X0_evenings prog_2_method_7_code 10 (Option.some Jvm.ClassFile.FieldType.int) 5 0 := ⟨⟨mem_g (i := 637) (by decide +kernel) rfl, mg 33 (by decide +kernel)⟩, by decide +kernel, by decide +kernel, by decide, mg 635 (by decide +kernel), mg 636 (by decide +kernel), _, rfl, rfl⟩
def y_X1_send : MethodName := ⟨"ActsPaid$Houses", "send", "(LActsPaid$Stage;I)V"⟩
def t_X1_send : List (Nat × Ao) := [
  (0, (0, 0, 0, 0, 0, 0, [])),
  (1, (13, 0, 0, 3, 0, 0, [])),
  (2, (0, 0, 0, 0, 0, 0, [])),
  (3, (14, 0, 0, 4, 0, 0, [])),
  (5, (9, 0, 0, 0, 0, 0, [])),
  (6, (0, 0, 0, 0, 0, 0, [])),
  (7, (56, 0, 0, 18, 32, 193, [])),
  (10, (9, 0, 0, 0, 0, 0, [])),
  (11, (0, 0, 0, 0, 0, 0, [])),
  (12, (56, 0, 0, 22, 33, 195, [])),
  (15, (0, 0, 0, 0, 0, 0, [])),
  (16, (14, 0, 0, 5, 0, 0, [])),
  (18, (8, 0, 0, 5, 0, 0, [])),
  (20, (9, 0, 0, 1, 0, 0, [])),
  (21, (55, 0, 0, 25, 224, 90, [])),
  (24, (51, 0, 0, 132, 0, 0, [])),
  (27, (8, 0, 0, 4, 0, 0, [])),
  (29, (14, 0, 0, 6, 0, 0, [])),
  (31, (8, 0, 0, 5, 0, 0, [])),
  (33, (14, 0, 0, 7, 0, 0, [])),
  (35, (8, 0, 0, 7, 0, 0, [])),
  (37, (9, 0, 0, 1, 0, 0, [])),
  (38, (55, 0, 0, 25, 224, 90, [])),
  (41, (51, 0, 0, 101, 0, 0, [])),
  (44, (8, 0, 0, 6, 0, 0, [])),
  (46, (7, 0, 0, 3, 0, 0, [])),
  (47, (52, 0, 0, 65, 0, 0, [])),
  (50, (8, 0, 0, 6, 0, 0, [])),
  (52, (13, 0, 0, 3, 0, 0, [])),
  (53, (9, 0, 0, 0, 0, 0, [])),
  (54, (8, 0, 0, 5, 0, 0, [])),
  (56, (56, 0, 0, 18, 32, 193, [])),
  (59, (9, 0, 0, 0, 0, 0, [])),
  (60, (8, 0, 0, 7, 0, 0, [])),
  (62, (56, 0, 0, 22, 33, 195, [])),
  (65, (8, 0, 0, 6, 0, 0, [])),
  (67, (9, 0, 0, 1, 0, 0, [])),
  (68, (55, 0, 0, 30, 232, 115, [])),
  (71, (8, 0, 0, 7, 0, 0, [])),
  (73, (63, 0, 0, 33, 0, 0, [])),
  (76, (9, 0, 0, 1, 0, 0, [])),
  (77, (55, 0, 0, 39, 228, 104, [])),
  (80, (20, 0, 0, 0, 0, 0, [])),
  (81, (8, 0, 0, 7, 0, 0, [])),
  (83, (8, 0, 0, 5, 0, 0, [])),
  (85, (20, 0, 0, 0, 0, 0, [])),
  (86, (9, 0, 0, 1, 0, 0, [])),
  (87, (55, 0, 0, 42, 226, 99, [])),
  (90, (21, 0, 0, 0, 0, 0, [])),
  (91, (20, 0, 0, 0, 0, 0, [])),
  (92, (19, 0, 0, 0, 0, 0, [])),
  (93, (14, 0, 0, 6, 0, 0, [])),
  (95, (39, 1, 0, 7, 0, 0, [])),
  (98, (40, 0, 0, 35, 0, 0, [])),
  (101, (8, 0, 0, 4, 0, 0, [])),
  (103, (9, 0, 0, 1, 0, 0, [])),
  (104, (7, 0, 0, 2, 0, 0, [])),
  (105, (8, 0, 0, 5, 0, 0, [])),
  (107, (62, 0, 0, 45, 0, 0, [])),
  (110, (9, 0, 0, 1, 0, 0, [])),
  (111, (55, 0, 0, 49, 225, 94, [])),
  (114, (20, 0, 0, 0, 0, 0, [])),
  (115, (8, 0, 0, 5, 0, 0, [])),
  (117, (9, 0, 0, 1, 0, 0, [])),
  (118, (55, 0, 0, 42, 226, 99, [])),
  (121, (21, 0, 0, 0, 0, 0, [])),
  (122, (20, 0, 0, 0, 0, 0, [])),
  (123, (19, 0, 0, 0, 0, 0, [])),
  (124, (14, 0, 0, 4, 0, 0, [])),
  (126, (39, 1, 0, 5, 0, 0, [])),
  (129, (40, 0, 0, 18, 0, 0, [])),
  (132, (66, 0, 0, 0, 0, 0, []))]
def e_X1_send : Ev := (t_X1_send, [(33, (2, 1, 0, 0, s_X5_at)), (45, (3, 1, 0, 8, s_X8_worthPlayed))], 0, 0, false, 0, fun _ => 0)
def s_X1_send : Sp := spc e_X1_send 8
theorem m_X1_send : monoE e_X1_send := monoE_of (cons_all (p_X5_at) (cons_all (p_X8_worthPlayed) nil_all))
theorem p_X1_send : mono s_X1_send := spc_mono m_X1_send _
theorem k_X1_send (l : Launch) : Con l y_X1_send prog_3_method_2_code 8 (Option.none : Option Jvm.ClassFile.FieldType) { frames := 2, cells := 0, slots := 0, locals := 43 } 0 0 s_X1_send := con_of l e_X1_send y_X1_send prog_3_method_2_code 8 (Option.none : Option Jvm.ClassFile.FieldType) _ (by decide +kernel) (cons_all (clS (k_X5_at l) f_X5_at ⟨rfl, rfl, Nat.le_of_ble_eq_true rfl, Nat.le_of_ble_eq_true rfl⟩ (mg 547 (by decide +kernel))) (cons_all (clV (k_X8_worthPlayed l) f_X8_worthPlayed ⟨rfl, rfl, Nat.le_of_ble_eq_true rfl, Nat.le_of_ble_eq_true rfl⟩ (mg 548 (by decide +kernel))) nil_all)) (Or.inl (by decide +kernel))
theorem f_X1_send : calV y_X1_send prog_3_method_2_code 8 (Option.none : Option Jvm.ClassFile.FieldType) 3 1 := ⟨⟨mem_g (i := 546) (by decide +kernel) rfl, mg 32 (by decide +kernel)⟩, by decide +kernel, by decide +kernel, by decide, mg 544 (by decide +kernel), mg 545 (by decide +kernel), _, rfl, rfl⟩
def y_X1_sendAll : MethodName := ⟨"ActsPaid$Houses", "sendAll", "(LActsPaid$Stage;)V"⟩
def t_X1_sendAll : List (Nat × Ao) := [
  (0, (9, 0, 0, 0, 0, 0, [])),
  (1, (0, 0, 0, 0, 0, 0, [])),
  (2, (56, 0, 0, 52, 34, 197, [])),
  (5, (9, 0, 0, 0, 0, 0, [])),
  (6, (0, 0, 0, 0, 0, 0, [])),
  (7, (56, 0, 0, 55, 35, 199, [])),
  (10, (0, 0, 0, 0, 0, 0, [])),
  (11, (13, 0, 0, 2, 0, 0, [])),
  (12, (7, 0, 0, 2, 0, 0, [])),
  (13, (1, 8, 0, 0, 0, 0, [])),
  (15, (50, 0, 0, 85, 0, 0, [])),
  (18, (9, 0, 0, 1, 0, 0, [])),
  (19, (7, 0, 0, 2, 0, 0, [])),
  (20, (62, 0, 0, 58, 0, 0, [])),
  (23, (41, 0, 0, 79, 0, 0, [])),
  (26, (9, 0, 0, 0, 0, 0, [])),
  (27, (9, 0, 0, 1, 0, 0, [])),
  (28, (7, 0, 0, 2, 0, 0, [])),
  (29, (62, 0, 0, 62, 0, 0, [])),
  (32, (9, 0, 0, 0, 0, 0, [])),
  (33, (37, 0, 0, 0, 0, 0, [])),
  (34, (55, 0, 0, 52, 34, 197, [])),
  (37, (9, 0, 0, 1, 0, 0, [])),
  (38, (9, 0, 0, 1, 0, 0, [])),
  (39, (55, 0, 0, 49, 225, 94, [])),
  (42, (9, 0, 0, 0, 0, 0, [])),
  (43, (55, 0, 0, 18, 32, 193, [])),
  (46, (62, 0, 0, 66, 0, 0, [])),
  (49, (19, 0, 0, 0, 0, 0, [])),
  (50, (56, 0, 0, 52, 34, 197, [])),
  (53, (9, 0, 0, 0, 0, 0, [])),
  (54, (37, 0, 0, 0, 0, 0, [])),
  (55, (55, 0, 0, 55, 35, 199, [])),
  (58, (9, 0, 0, 1, 0, 0, [])),
  (59, (9, 0, 0, 1, 0, 0, [])),
  (60, (55, 0, 0, 39, 228, 104, [])),
  (63, (9, 0, 0, 0, 0, 0, [])),
  (64, (55, 0, 0, 22, 33, 195, [])),
  (67, (9, 0, 0, 0, 0, 0, [])),
  (68, (55, 0, 0, 18, 32, 193, [])),
  (71, (20, 0, 0, 0, 0, 0, [])),
  (72, (62, 0, 0, 66, 0, 0, [])),
  (75, (19, 0, 0, 0, 0, 0, [])),
  (76, (56, 0, 0, 55, 35, 199, [])),
  (79, (39, 1, 0, 2, 0, 0, [])),
  (82, (40, 0, 0, 12, 0, 0, [])),
  (85, (66, 0, 0, 0, 0, 0, []))]
def e_X1_sendAll : Ev := (t_X1_sendAll, [(58, (2, 1, 0, 8, s_X8_comes)), (62, (3, 0, 0, 2, s_X1_send)), (66, (3, 1, 0, 8, s_X8_price))], 0, 0, false, 0, fun _ => 0)
def s_X1_sendAll : Sp := spc e_X1_sendAll 3
theorem m_X1_sendAll : monoE e_X1_sendAll := monoE_of (cons_all (p_X8_comes) (cons_all (p_X1_send) (cons_all (p_X8_price) nil_all)))
theorem p_X1_sendAll : mono s_X1_sendAll := spc_mono m_X1_sendAll _
theorem k_X1_sendAll (l : Launch) : Con l y_X1_sendAll prog_3_method_3_code 3 (Option.none : Option Jvm.ClassFile.FieldType) { frames := 3, cells := 0, slots := 0, locals := 70 } 0 0 s_X1_sendAll := con_of l e_X1_sendAll y_X1_sendAll prog_3_method_3_code 3 (Option.none : Option Jvm.ClassFile.FieldType) _ (by decide +kernel) (cons_all (clV (k_X8_comes l) f_X8_comes ⟨rfl, rfl, Nat.le_of_ble_eq_true rfl, Nat.le_of_ble_eq_true rfl⟩ (mg 557 (by decide +kernel))) (cons_all (clV (k_X1_send l) f_X1_send ⟨rfl, rfl, Nat.le_of_ble_eq_true rfl, Nat.le_of_ble_eq_true rfl⟩ (mg 558 (by decide +kernel))) (cons_all (clV (k_X8_price l) f_X8_price ⟨rfl, rfl, Nat.le_of_ble_eq_true rfl, Nat.le_of_ble_eq_true rfl⟩ (mg 559 (by decide +kernel))) nil_all))) (Or.inl (by decide +kernel))
theorem f_X1_sendAll : calV y_X1_sendAll prog_3_method_3_code 3 (Option.none : Option Jvm.ClassFile.FieldType) 2 1 := ⟨⟨mem_g (i := 556) (by decide +kernel) rfl, mg 32 (by decide +kernel)⟩, by decide +kernel, by decide +kernel, by decide, mg 554 (by decide +kernel), mg 555 (by decide +kernel), _, rfl, rfl⟩
def y_X1_bothRest : MethodName := ⟨"ActsPaid$Houses", "bothRest", "(I)Z"⟩
def t_X1_bothRest : List (Nat × Ao) := [
  (0, (7, 0, 0, 1, 0, 0, [])),
  (1, (1, 10, 0, 0, 0, 0, [])),
  (3, (22, 0, 0, 0, 0, 0, [])),
  (4, (13, 0, 0, 2, 0, 0, [])),
  (5, (7, 0, 0, 1, 0, 0, [])),
  (6, (1, 10, 0, 0, 0, 0, [])),
  (8, (23, 0, 0, 0, 0, 0, [])),
  (9, (13, 0, 0, 3, 0, 0, [])),
  (10, (0, 0, 0, 0, 0, 0, [])),
  (11, (14, 0, 0, 4, 0, 0, [])),
  (13, (8, 0, 0, 4, 0, 0, [])),
  (15, (1, 10, 0, 0, 0, 0, [])),
  (17, (50, 0, 0, 102, 0, 0, [])),
  (20, (9, 0, 0, 0, 0, 0, [])),
  (21, (55, 0, 0, 11, 36, 201, [])),
  (24, (8, 0, 0, 4, 0, 0, [])),
  (26, (1, 10, 0, 0, 0, 0, [])),
  (28, (21, 0, 0, 0, 0, 0, [])),
  (29, (7, 0, 0, 3, 0, 0, [])),
  (30, (19, 0, 0, 0, 0, 0, [])),
  (31, (63, 0, 0, 33, 0, 0, [])),
  (34, (9, 0, 0, 0, 0, 0, [])),
  (35, (55, 0, 0, 11, 36, 201, [])),
  (38, (7, 0, 0, 1, 0, 0, [])),
  (39, (63, 0, 0, 33, 0, 0, [])),
  (42, (52, 0, 0, 49, 0, 0, [])),
  (45, (0, 1, 0, 0, 0, 0, [])),
  (46, (40, 0, 0, 50, 0, 0, [])),
  (49, (0, 0, 0, 0, 0, 0, [])),
  (50, (14, 0, 0, 5, 0, 0, [])),
  (52, (9, 0, 0, 0, 0, 0, [])),
  (53, (55, 0, 0, 15, 37, 202, [])),
  (56, (7, 0, 0, 2, 0, 0, [])),
  (57, (1, 10, 0, 0, 0, 0, [])),
  (59, (21, 0, 0, 0, 0, 0, [])),
  (60, (8, 0, 0, 4, 0, 0, [])),
  (62, (19, 0, 0, 0, 0, 0, [])),
  (63, (63, 0, 0, 33, 0, 0, [])),
  (66, (9, 0, 0, 0, 0, 0, [])),
  (67, (55, 0, 0, 15, 37, 202, [])),
  (70, (7, 0, 0, 1, 0, 0, [])),
  (71, (63, 0, 0, 33, 0, 0, [])),
  (74, (52, 0, 0, 81, 0, 0, [])),
  (77, (0, 1, 0, 0, 0, 0, [])),
  (78, (40, 0, 0, 82, 0, 0, [])),
  (81, (0, 0, 0, 0, 0, 0, [])),
  (82, (14, 0, 0, 6, 0, 0, [])),
  (84, (8, 0, 0, 5, 0, 0, [])),
  (86, (42, 0, 0, 94, 0, 0, [])),
  (89, (8, 0, 0, 6, 0, 0, [])),
  (91, (41, 0, 0, 96, 0, 0, [])),
  (94, (0, 0, 0, 0, 0, 0, [])),
  (95, (64, 0, 0, 0, 0, 0, [])),
  (96, (39, 1, 0, 4, 0, 0, [])),
  (99, (40, 0, 0, 13, 0, 0, [])),
  (102, (0, 1, 0, 0, 0, 0, [])),
  (103, (64, 0, 0, 0, 0, 0, []))]
def e_X1_bothRest : Ev := (t_X1_bothRest, [(33, (2, 1, 0, 0, s_X5_at))], 4, 0, false, 0, fun _ => 0)
def s_X1_bothRest : Sp := spc e_X1_bothRest 7
theorem m_X1_bothRest : monoE e_X1_bothRest := monoE_of (cons_all (p_X5_at) nil_all)
theorem p_X1_bothRest : mono s_X1_bothRest := spc_mono m_X1_bothRest _
theorem k_X1_bothRest (l : Launch) : Con l y_X1_bothRest prog_3_method_5_code 7 (Option.some Jvm.ClassFile.FieldType.boolean) { frames := 1, cells := 0, slots := 0, locals := 21 } 1 0 s_X1_bothRest := con_of l e_X1_bothRest y_X1_bothRest prog_3_method_5_code 7 (Option.some Jvm.ClassFile.FieldType.boolean) _ (by decide +kernel) (cons_all (clS (k_X5_at l) f_X5_at ⟨rfl, rfl, Nat.le_of_ble_eq_true rfl, Nat.le_of_ble_eq_true rfl⟩ (mg 547 (by decide +kernel))) nil_all) (Or.inl (by decide +kernel))
theorem f_X1_bothRest : calV y_X1_bothRest prog_3_method_5_code 7 (Option.some Jvm.ClassFile.FieldType.boolean) 2 1 := ⟨⟨mem_g (i := 573) (by decide +kernel) rfl, mg 32 (by decide +kernel)⟩, by decide +kernel, by decide +kernel, by decide, mg 571 (by decide +kernel), mg 572 (by decide +kernel), _, rfl, rfl⟩
def y_X1_restingBases : MethodName := ⟨"ActsPaid$Houses", "restingBases", "(LActsPaid$Stage;I)I"⟩
def t_X1_restingBases : List (Nat × Ao) := [
  (0, (0, 0, 0, 0, 0, 0, [])),
  (1, (13, 0, 0, 3, 0, 0, [])),
  (2, (7, 0, 0, 3, 0, 0, [])),
  (3, (1, 100, 0, 0, 0, 0, [])),
  (5, (50, 0, 0, 59, 0, 0, [])),
  (8, (9, 0, 0, 1, 0, 0, [])),
  (9, (7, 0, 0, 3, 0, 0, [])),
  (10, (1, 10, 0, 0, 0, 0, [])),
  (12, (22, 0, 0, 0, 0, 0, [])),
  (13, (56, 0, 0, 49, 225, 94, [])),
  (16, (9, 0, 0, 1, 0, 0, [])),
  (17, (7, 0, 0, 3, 0, 0, [])),
  (18, (1, 10, 0, 0, 0, 0, [])),
  (20, (23, 0, 0, 0, 0, 0, [])),
  (21, (56, 0, 0, 39, 228, 104, [])),
  (24, (9, 0, 0, 0, 0, 0, [])),
  (25, (9, 0, 0, 1, 0, 0, [])),
  (26, (62, 0, 0, 69, 0, 0, [])),
  (29, (9, 0, 0, 0, 0, 0, [])),
  (30, (55, 0, 0, 11, 36, 201, [])),
  (33, (7, 0, 0, 3, 0, 0, [])),
  (34, (9, 0, 0, 0, 0, 0, [])),
  (35, (55, 0, 0, 52, 34, 197, [])),
  (38, (63, 0, 0, 73, 0, 0, [])),
  (41, (9, 0, 0, 0, 0, 0, [])),
  (42, (55, 0, 0, 15, 37, 202, [])),
  (45, (7, 0, 0, 3, 0, 0, [])),
  (46, (9, 0, 0, 0, 0, 0, [])),
  (47, (55, 0, 0, 55, 35, 199, [])),
  (50, (63, 0, 0, 73, 0, 0, [])),
  (53, (39, 1, 0, 3, 0, 0, [])),
  (56, (40, 0, 0, 2, 0, 0, [])),
  (59, (0, 0, 0, 0, 0, 0, [])),
  (60, (13, 0, 0, 3, 0, 0, [])),
  (61, (0, 0, 0, 0, 0, 0, [])),
  (62, (14, 0, 0, 4, 0, 0, [])),
  (64, (8, 0, 0, 4, 0, 0, [])),
  (66, (1, 100, 0, 0, 0, 0, [])),
  (68, (50, 0, 0, 97, 0, 0, [])),
  (71, (9, 0, 0, 0, 0, 0, [])),
  (72, (8, 0, 0, 4, 0, 0, [])),
  (74, (62, 0, 0, 77, 0, 0, [])),
  (77, (41, 0, 0, 91, 0, 0, [])),
  (80, (7, 0, 0, 3, 0, 0, [])),
  (81, (7, 0, 0, 2, 0, 0, [])),
  (82, (48, 0, 0, 88, 0, 0, [])),
  (85, (8, 0, 0, 4, 0, 0, [])),
  (87, (64, 0, 0, 0, 0, 0, [])),
  (88, (39, 1, 0, 3, 0, 0, [])),
  (91, (39, 1, 0, 4, 0, 0, [])),
  (94, (40, 0, 0, 64, 0, 0, [])),
  (97, (7, 0, 0, 2, 0, 0, [])),
  (98, (0, (-1), 0, 0, 0, 0, [])),
  (99, (48, 0, 0, 106, 0, 0, [])),
  (102, (7, 0, 0, 3, 0, 0, [])),
  (103, (40, 0, 0, 108, 0, 0, [])),
  (106, (1, (-6), 0, 0, 0, 0, [])),
  (108, (64, 0, 0, 0, 0, 0, []))]
def e_X1_restingBases : Ev := (t_X1_restingBases, [(69, (2, 0, 0, 2, s_X1_sendAll)), (73, (3, 0, 0, 0, s_X5_put)), (77, (2, 1, 0, 2, s_X1_bothRest))], 1, 0, false, 0, fun _ => 0)
def s_X1_restingBases : Sp := spc e_X1_restingBases 5
theorem m_X1_restingBases : monoE e_X1_restingBases := monoE_of (cons_all (p_X1_sendAll) (cons_all (p_X5_put) (cons_all (p_X1_bothRest) nil_all)))
theorem p_X1_restingBases : mono s_X1_restingBases := spc_mono m_X1_restingBases _
theorem k_X1_restingBases (l : Launch) : Con l y_X1_restingBases prog_3_method_4_code 5 (Option.some Jvm.ClassFile.FieldType.int) { frames := 4, cells := 0, slots := 0, locals := 92 } 1 0 s_X1_restingBases := con_of l e_X1_restingBases y_X1_restingBases prog_3_method_4_code 5 (Option.some Jvm.ClassFile.FieldType.int) _ (by decide +kernel) (cons_all (clV (k_X1_sendAll l) f_X1_sendAll ⟨rfl, rfl, Nat.le_of_ble_eq_true rfl, Nat.le_of_ble_eq_true rfl⟩ (mg 568 (by decide +kernel))) (cons_all (clS (k_X5_put l) f_X5_put ⟨rfl, rfl, Nat.le_of_ble_eq_true rfl, Nat.le_of_ble_eq_true rfl⟩ (mg 569 (by decide +kernel))) (cons_all (clV (k_X1_bothRest l) f_X1_bothRest ⟨rfl, rfl, Nat.le_of_ble_eq_true rfl, Nat.le_of_ble_eq_true rfl⟩ (mg 570 (by decide +kernel))) nil_all))) (Or.inl (by decide +kernel))
theorem f_X1_restingBases : calV y_X1_restingBases prog_3_method_4_code 5 (Option.some Jvm.ClassFile.FieldType.int) 3 1 := ⟨⟨mem_g (i := 567) (by decide +kernel) rfl, mg 32 (by decide +kernel)⟩, by decide +kernel, by decide +kernel, by decide, mg 565 (by decide +kernel), mg 566 (by decide +kernel), _, rfl, rfl⟩
def y_X3_add : MethodName := ⟨"ActsPaid$Pad", "add", "(I)Z"⟩
def t_X3_add : List (Nat × Ao) := [
  (0, (9, 0, 0, 0, 0, 0, [])),
  (1, (55, 0, 0, 15, 97, 53, [])),
  (4, (1, 48, 0, 0, 0, 0, [])),
  (6, (49, 0, 0, 11, 0, 0, [])),
  (9, (0, 0, 0, 0, 0, 0, [])),
  (10, (64, 0, 0, 0, 0, 0, [])),
  (11, (9, 0, 0, 0, 0, 0, [])),
  (12, (55, 0, 0, 9, 96, 52, [])),
  (15, (9, 0, 0, 0, 0, 0, [])),
  (16, (55, 0, 0, 15, 97, 53, [])),
  (19, (7, 0, 0, 1, 0, 0, [])),
  (20, (63, 0, 0, 19, 0, 0, [])),
  (23, (9, 0, 0, 0, 0, 0, [])),
  (24, (37, 0, 0, 0, 0, 0, [])),
  (25, (55, 0, 0, 15, 97, 53, [])),
  (28, (0, 1, 0, 0, 0, 0, [])),
  (29, (19, 0, 0, 0, 0, 0, [])),
  (30, (56, 0, 0, 15, 97, 53, [])),
  (33, (0, 1, 0, 0, 0, 0, [])),
  (34, (64, 0, 0, 0, 0, 0, []))]
def e_X3_add : Ev := (t_X3_add, [(19, (3, 0, 0, 0, s_X5_put))], 4, 0, false, 0, fun _ => 0)
def s_X3_add : Sp := spc e_X3_add 2
theorem m_X3_add : monoE e_X3_add := monoE_of (cons_all (p_X5_put) nil_all)
theorem p_X3_add : mono s_X3_add := spc_mono m_X3_add _
theorem k_X3_add (l : Launch) : Con l y_X3_add prog_5_method_2_code 2 (Option.some Jvm.ClassFile.FieldType.boolean) { frames := 1, cells := 0, slots := 0, locals := 22 } 1 0 s_X3_add := con_of l e_X3_add y_X3_add prog_5_method_2_code 2 (Option.some Jvm.ClassFile.FieldType.boolean) _ (by decide +kernel) (cons_all (clS (k_X5_put l) f_X5_put ⟨rfl, rfl, Nat.le_of_ble_eq_true rfl, Nat.le_of_ble_eq_true rfl⟩ (mg 295 (by decide +kernel))) nil_all) (Or.inl (by decide +kernel))
theorem f_X3_add : calV y_X3_add prog_5_method_2_code 2 (Option.some Jvm.ClassFile.FieldType.boolean) 2 3 := ⟨⟨mem_g (i := 294) (by decide +kernel) rfl, mg 26 (by decide +kernel)⟩, by decide +kernel, by decide +kernel, by decide, mg 292 (by decide +kernel), mg 293 (by decide +kernel), _, rfl, rfl⟩
def y_X3_sign : MethodName := ⟨"ActsPaid$Pad", "sign", "(I)I"⟩
def t_X3_sign : List (Nat × Ao) := [
  (0, (9, 0, 0, 0, 0, 0, [])),
  (1, (55, 0, 0, 9, 96, 52, [])),
  (4, (7, 0, 0, 1, 0, 0, [])),
  (5, (63, 0, 0, 25, 0, 0, [])),
  (8, (64, 0, 0, 0, 0, 0, []))]
def e_X3_sign : Ev := (t_X3_sign, [(25, (2, 1, 0, 0, s_X5_at))], 1, 0, false, 0, fun _ => 0)
def s_X3_sign : Sp := spc e_X3_sign 2
theorem m_X3_sign : monoE e_X3_sign := monoE_of (cons_all (p_X5_at) nil_all)
theorem p_X3_sign : mono s_X3_sign := spc_mono m_X3_sign _
theorem k_X3_sign (l : Launch) : Con l y_X3_sign prog_5_method_3_code 2 (Option.some Jvm.ClassFile.FieldType.int) { frames := 1, cells := 0, slots := 0, locals := 21 } 1 0 s_X3_sign := con_of l e_X3_sign y_X3_sign prog_5_method_3_code 2 (Option.some Jvm.ClassFile.FieldType.int) _ (by decide +kernel) (cons_all (clS (k_X5_at l) f_X5_at ⟨rfl, rfl, Nat.le_of_ble_eq_true rfl, Nat.le_of_ble_eq_true rfl⟩ (mg 312 (by decide +kernel))) nil_all) (Or.inl (by decide +kernel))
theorem f_X3_sign : calV y_X3_sign prog_5_method_3_code 2 (Option.some Jvm.ClassFile.FieldType.int) 2 3 := ⟨⟨mem_g (i := 311) (by decide +kernel) rfl, mg 26 (by decide +kernel)⟩, by decide +kernel, by decide +kernel, by decide, mg 309 (by decide +kernel), mg 310 (by decide +kernel), _, rfl, rfl⟩
def y_X3_tellsWorth : MethodName := ⟨"ActsPaid$Pad", "tellsWorth", "(I)Z"⟩
def t_X3_tellsWorth : List (Nat × Ao) := [
  (0, (7, 0, 0, 0, 0, 0, [])),
  (1, (1, 97, 0, 0, 0, 0, [])),
  (3, (1, 122, 0, 0, 0, 0, [])),
  (5, (63, 0, 0, 40, 0, 0, [])),
  (8, (42, 0, 0, 22, 0, 0, [])),
  (11, (7, 0, 0, 0, 0, 0, [])),
  (12, (1, 65, 0, 0, 0, 0, [])),
  (14, (1, 74, 0, 0, 0, 0, [])),
  (16, (63, 0, 0, 40, 0, 0, [])),
  (19, (41, 0, 0, 26, 0, 0, [])),
  (22, (0, 1, 0, 0, 0, 0, [])),
  (23, (40, 0, 0, 27, 0, 0, [])),
  (26, (0, 0, 0, 0, 0, 0, [])),
  (27, (64, 0, 0, 0, 0, 0, []))]
def e_X3_tellsWorth : Ev := (t_X3_tellsWorth, [(40, (3, 1, 0, 0, s_X9_within))], 4, 0, false, 0, fun _ => 0)
def s_X3_tellsWorth : Sp := spc e_X3_tellsWorth 1
theorem m_X3_tellsWorth : monoE e_X3_tellsWorth := monoE_of (cons_all (p_X9_within) nil_all)
theorem p_X3_tellsWorth : mono s_X3_tellsWorth := spc_mono m_X3_tellsWorth _
theorem k_X3_tellsWorth (l : Launch) : Con l y_X3_tellsWorth prog_5_method_6_code 1 (Option.some Jvm.ClassFile.FieldType.boolean) { frames := 1, cells := 0, slots := 0, locals := 22 } 1 0 s_X3_tellsWorth := con_of l e_X3_tellsWorth y_X3_tellsWorth prog_5_method_6_code 1 (Option.some Jvm.ClassFile.FieldType.boolean) _ (by decide +kernel) (cons_all (clN (k_X9_within l) f_X9_within ⟨rfl, rfl, Nat.le_of_ble_eq_true rfl, Nat.le_of_ble_eq_true rfl⟩ (by unfold nstL; decide +kernel)) nil_all) (Or.inl (by decide +kernel))
theorem f_X3_tellsWorth : calS y_X3_tellsWorth prog_5_method_6_code 1 (Option.some Jvm.ClassFile.FieldType.boolean) 1 := ⟨⟨mem_g (i := 317) (by decide +kernel) rfl, mg 26 (by decide +kernel)⟩, by decide +kernel, by decide +kernel, mg 316 (by decide +kernel)⟩
def y_X3_guestFault : MethodName := ⟨"ActsPaid$Pad", "guestFault", "(I)I"⟩
def t_X3_guestFault : List (Nat × Ao) := [
  (0, (0, 0, 0, 0, 0, 0, [])),
  (1, (13, 0, 0, 2, 0, 0, [])),
  (2, (7, 0, 0, 2, 0, 0, [])),
  (3, (9, 0, 0, 0, 0, 0, [])),
  (4, (55, 0, 0, 15, 97, 53, [])),
  (7, (50, 0, 0, 34, 0, 0, [])),
  (10, (7, 0, 0, 2, 0, 0, [])),
  (11, (7, 0, 0, 1, 0, 0, [])),
  (12, (50, 0, 0, 26, 0, 0, [])),
  (15, (9, 0, 0, 0, 0, 0, [])),
  (16, (7, 0, 0, 2, 0, 0, [])),
  (17, (62, 0, 0, 29, 0, 0, [])),
  (20, (63, 0, 0, 33, 0, 0, [])),
  (23, (42, 0, 0, 28, 0, 0, [])),
  (26, (7, 0, 0, 2, 0, 0, [])),
  (27, (64, 0, 0, 0, 0, 0, [])),
  (28, (39, 1, 0, 2, 0, 0, [])),
  (31, (40, 0, 0, 2, 0, 0, [])),
  (34, (9, 0, 0, 0, 0, 0, [])),
  (35, (55, 0, 0, 15, 97, 53, [])),
  (38, (7, 0, 0, 1, 0, 0, [])),
  (39, (50, 0, 0, 49, 0, 0, [])),
  (42, (9, 0, 0, 0, 0, 0, [])),
  (43, (55, 0, 0, 15, 97, 53, [])),
  (46, (40, 0, 0, 51, 0, 0, [])),
  (49, (1, (-6), 0, 0, 0, 0, [])),
  (51, (64, 0, 0, 0, 0, 0, []))]
def e_X3_guestFault : Ev := (t_X3_guestFault, [(29, (2, 1, 0, 4, s_X3_sign)), (33, (1, 1, 0, 0, s_X3_tellsWorth))], 1, 0, false, 0, fun _ => 0)
def s_X3_guestFault : Sp := spc e_X3_guestFault 3
theorem m_X3_guestFault : monoE e_X3_guestFault := monoE_of (cons_all (p_X3_sign) (cons_all (p_X3_tellsWorth) nil_all))
theorem p_X3_guestFault : mono s_X3_guestFault := spc_mono m_X3_guestFault _
theorem k_X3_guestFault (l : Launch) : Con l y_X3_guestFault prog_5_method_4_code 3 (Option.some Jvm.ClassFile.FieldType.int) { frames := 2, cells := 0, slots := 0, locals := 42 } 1 0 s_X3_guestFault := con_of l e_X3_guestFault y_X3_guestFault prog_5_method_4_code 3 (Option.some Jvm.ClassFile.FieldType.int) _ (by decide +kernel) (cons_all (clV (k_X3_sign l) f_X3_sign ⟨rfl, rfl, Nat.le_of_ble_eq_true rfl, Nat.le_of_ble_eq_true rfl⟩ (mg 308 (by decide +kernel))) (cons_all (clS (k_X3_tellsWorth l) f_X3_tellsWorth ⟨rfl, rfl, Nat.le_of_ble_eq_true rfl, Nat.le_of_ble_eq_true rfl⟩ (mg 315 (by decide +kernel))) nil_all)) (Or.inl (by decide +kernel))
theorem f_X3_guestFault : calV y_X3_guestFault prog_5_method_4_code 3 (Option.some Jvm.ClassFile.FieldType.int) 2 3 := ⟨⟨mem_g (i := 307) (by decide +kernel) rfl, mg 26 (by decide +kernel)⟩, by decide +kernel, by decide +kernel, by decide, mg 305 (by decide +kernel), mg 306 (by decide +kernel), _, rfl, rfl⟩
def y_X3_actTold : MethodName := ⟨"ActsPaid$Pad", "actTold", "(I)I"⟩
def t_X3_actTold : List (Nat × Ao) := [
  (0, (7, 0, 0, 0, 0, 0, [])),
  (1, (1, 48, 0, 0, 0, 0, [])),
  (3, (20, 0, 0, 0, 0, 0, [])),
  (4, (64, 0, 0, 0, 0, 0, []))]
def e_X3_actTold : Ev := (t_X3_actTold, [], 1, 0, false, 0, fun _ => 0)
def s_X3_actTold : Sp := spc e_X3_actTold 1
theorem m_X3_actTold : monoE e_X3_actTold := monoE_of nil_all
theorem p_X3_actTold : mono s_X3_actTold := spc_mono m_X3_actTold _
theorem k_X3_actTold (l : Launch) : Con l y_X3_actTold prog_5_method_8_code 1 (Option.some Jvm.ClassFile.FieldType.int) { frames := 0, cells := 0, slots := 0, locals := 0 } 1 0 s_X3_actTold := con_of l e_X3_actTold y_X3_actTold prog_5_method_8_code 1 (Option.some Jvm.ClassFile.FieldType.int) _ (by decide +kernel) nil_all (Or.inl (by decide +kernel))
theorem f_X3_actTold : calS y_X3_actTold prog_5_method_8_code 1 (Option.some Jvm.ClassFile.FieldType.int) 1 := ⟨⟨mem_g (i := 325) (by decide +kernel) rfl, mg 26 (by decide +kernel)⟩, by decide +kernel, by decide +kernel, mg 324 (by decide +kernel)⟩
def y_X3_orderFault : MethodName := ⟨"ActsPaid$Pad", "orderFault", "(I)I"⟩
def t_X3_orderFault : List (Nat × Ao) := [
  (0, (0, 0, 0, 0, 0, 0, [])),
  (1, (13, 0, 0, 2, 0, 0, [])),
  (2, (0, 0, 0, 0, 0, 0, [])),
  (3, (13, 0, 0, 3, 0, 0, [])),
  (4, (7, 0, 0, 3, 0, 0, [])),
  (5, (9, 0, 0, 0, 0, 0, [])),
  (6, (55, 0, 0, 15, 97, 53, [])),
  (9, (50, 0, 0, 58, 0, 0, [])),
  (12, (9, 0, 0, 0, 0, 0, [])),
  (13, (7, 0, 0, 3, 0, 0, [])),
  (14, (62, 0, 0, 29, 0, 0, [])),
  (17, (63, 0, 0, 37, 0, 0, [])),
  (20, (14, 0, 0, 4, 0, 0, [])),
  (22, (8, 0, 0, 4, 0, 0, [])),
  (24, (0, 0, 0, 0, 0, 0, [])),
  (25, (7, 0, 0, 1, 0, 0, [])),
  (26, (0, 1, 0, 0, 0, 0, [])),
  (27, (20, 0, 0, 0, 0, 0, [])),
  (28, (63, 0, 0, 40, 0, 0, [])),
  (31, (41, 0, 0, 43, 0, 0, [])),
  (34, (7, 0, 0, 2, 0, 0, [])),
  (35, (8, 0, 0, 4, 0, 0, [])),
  (37, (29, 0, 0, 0, 0, 0, [])),
  (38, (0, 1, 0, 0, 0, 0, [])),
  (39, (25, 0, 0, 0, 0, 0, [])),
  (40, (41, 0, 0, 45, 0, 0, [])),
  (43, (7, 0, 0, 3, 0, 0, [])),
  (44, (64, 0, 0, 0, 0, 0, [])),
  (45, (7, 0, 0, 2, 0, 0, [])),
  (46, (0, 1, 0, 0, 0, 0, [])),
  (47, (8, 0, 0, 4, 0, 0, [])),
  (49, (28, 0, 0, 0, 0, 0, [])),
  (50, (26, 0, 0, 0, 0, 0, [])),
  (51, (13, 0, 0, 2, 0, 0, [])),
  (52, (39, 1, 0, 3, 0, 0, [])),
  (55, (40, 0, 0, 4, 0, 0, [])),
  (58, (9, 0, 0, 0, 0, 0, [])),
  (59, (55, 0, 0, 15, 97, 53, [])),
  (62, (7, 0, 0, 1, 0, 0, [])),
  (63, (50, 0, 0, 73, 0, 0, [])),
  (66, (9, 0, 0, 0, 0, 0, [])),
  (67, (55, 0, 0, 15, 97, 53, [])),
  (70, (40, 0, 0, 75, 0, 0, [])),
  (73, (1, (-6), 0, 0, 0, 0, [])),
  (75, (64, 0, 0, 0, 0, 0, []))]
def e_X3_orderFault : Ev := (t_X3_orderFault, [(29, (2, 1, 0, 4, s_X3_sign)), (37, (1, 1, 0, 0, s_X3_actTold)), (40, (3, 1, 0, 0, s_X9_within))], 1, 0, false, 0, fun _ => 0)
def s_X3_orderFault : Sp := spc e_X3_orderFault 5
theorem m_X3_orderFault : monoE e_X3_orderFault := monoE_of (cons_all (p_X3_sign) (cons_all (p_X3_actTold) (cons_all (p_X9_within) nil_all)))
theorem p_X3_orderFault : mono s_X3_orderFault := spc_mono m_X3_orderFault _
theorem k_X3_orderFault (l : Launch) : Con l y_X3_orderFault prog_5_method_5_code 5 (Option.some Jvm.ClassFile.FieldType.int) { frames := 2, cells := 0, slots := 0, locals := 42 } 1 0 s_X3_orderFault := con_of l e_X3_orderFault y_X3_orderFault prog_5_method_5_code 5 (Option.some Jvm.ClassFile.FieldType.int) _ (by decide +kernel) (cons_all (clV (k_X3_sign l) f_X3_sign ⟨rfl, rfl, Nat.le_of_ble_eq_true rfl, Nat.le_of_ble_eq_true rfl⟩ (mg 308 (by decide +kernel))) (cons_all (clS (k_X3_actTold l) f_X3_actTold ⟨rfl, rfl, Nat.le_of_ble_eq_true rfl, Nat.le_of_ble_eq_true rfl⟩ (mg 323 (by decide +kernel))) (cons_all (clN (k_X9_within l) f_X9_within ⟨rfl, rfl, Nat.le_of_ble_eq_true rfl, Nat.le_of_ble_eq_true rfl⟩ (by unfold nstL; decide +kernel)) nil_all))) (Or.inl (by decide +kernel))
theorem f_X3_orderFault : calV y_X3_orderFault prog_5_method_5_code 5 (Option.some Jvm.ClassFile.FieldType.int) 2 3 := ⟨⟨mem_g (i := 322) (by decide +kernel) rfl, mg 26 (by decide +kernel)⟩, by decide +kernel, by decide +kernel, by decide, mg 320 (by decide +kernel), mg 321 (by decide +kernel), _, rfl, rfl⟩
def y_X3_worthTold : MethodName := ⟨"ActsPaid$Pad", "worthTold", "(I)I"⟩
def t_X3_worthTold : List (Nat × Ao) := [
  (0, (7, 0, 0, 0, 0, 0, [])),
  (1, (1, 97, 0, 0, 0, 0, [])),
  (3, (49, 0, 0, 13, 0, 0, [])),
  (6, (7, 0, 0, 0, 0, 0, [])),
  (7, (1, 97, 0, 0, 0, 0, [])),
  (9, (20, 0, 0, 0, 0, 0, [])),
  (10, (40, 0, 0, 17, 0, 0, [])),
  (13, (1, 64, 0, 0, 0, 0, [])),
  (15, (7, 0, 0, 0, 0, 0, [])),
  (16, (20, 0, 0, 0, 0, 0, [])),
  (17, (64, 0, 0, 0, 0, 0, []))]
def e_X3_worthTold : Ev := (t_X3_worthTold, [], 1, 0, false, 0, fun _ => 0)
def s_X3_worthTold : Sp := spc e_X3_worthTold 1
theorem m_X3_worthTold : monoE e_X3_worthTold := monoE_of nil_all
theorem p_X3_worthTold : mono s_X3_worthTold := spc_mono m_X3_worthTold _
theorem k_X3_worthTold (l : Launch) : Con l y_X3_worthTold prog_5_method_7_code 1 (Option.some Jvm.ClassFile.FieldType.int) { frames := 0, cells := 0, slots := 0, locals := 0 } 1 0 s_X3_worthTold := con_of l e_X3_worthTold y_X3_worthTold prog_5_method_7_code 1 (Option.some Jvm.ClassFile.FieldType.int) _ (by decide +kernel) nil_all (Or.inl (by decide +kernel))
theorem f_X3_worthTold : calS y_X3_worthTold prog_5_method_7_code 1 (Option.some Jvm.ClassFile.FieldType.int) 1 := ⟨⟨mem_g (i := 333) (by decide +kernel) rfl, mg 26 (by decide +kernel)⟩, by decide +kernel, by decide +kernel, mg 332 (by decide +kernel)⟩
def y_X8_allPay : MethodName := ⟨"ActsPaid$Stage", "allPay", "()I"⟩
def t_X8_allPay : List (Nat × Ao) := [
  (0, (0, 0, 0, 0, 0, 0, [])),
  (1, (13, 0, 0, 1, 0, 0, [])),
  (2, (0, 0, 0, 0, 0, 0, [])),
  (3, (13, 0, 0, 2, 0, 0, [])),
  (4, (7, 0, 0, 2, 0, 0, [])),
  (5, (1, 8, 0, 0, 0, 0, [])),
  (7, (50, 0, 0, 24, 0, 0, [])),
  (10, (7, 0, 0, 1, 0, 0, [])),
  (11, (9, 0, 0, 0, 0, 0, [])),
  (12, (7, 0, 0, 2, 0, 0, [])),
  (13, (62, 0, 0, 96, 0, 0, [])),
  (16, (19, 0, 0, 0, 0, 0, [])),
  (17, (13, 0, 0, 1, 0, 0, [])),
  (18, (39, 1, 0, 2, 0, 0, [])),
  (21, (40, 0, 0, 4, 0, 0, [])),
  (24, (7, 0, 0, 1, 0, 0, [])),
  (25, (64, 0, 0, 0, 0, 0, []))]
def e_X8_allPay : Ev := (t_X8_allPay, [(96, (2, 1, 0, 8, s_X8_pays))], 1, 0, false, 0, fun _ => 0)
def s_X8_allPay : Sp := spc e_X8_allPay 3
theorem m_X8_allPay : monoE e_X8_allPay := monoE_of (cons_all (p_X8_pays) nil_all)
theorem p_X8_allPay : mono s_X8_allPay := spc_mono m_X8_allPay _
theorem k_X8_allPay (l : Launch) : Con l y_X8_allPay prog_10_method_16_code 3 (Option.some Jvm.ClassFile.FieldType.int) { frames := 4, cells := 0, slots := 0, locals := 90 } 1 0 s_X8_allPay := con_of l e_X8_allPay y_X8_allPay prog_10_method_16_code 3 (Option.some Jvm.ClassFile.FieldType.int) _ (by decide +kernel) (cons_all (clV (k_X8_pays l) f_X8_pays ⟨rfl, rfl, Nat.le_of_ble_eq_true rfl, Nat.le_of_ble_eq_true rfl⟩ (mg 400 (by decide +kernel))) nil_all) (Or.inl (by decide +kernel))
theorem f_X8_allPay : calV y_X8_allPay prog_10_method_16_code 3 (Option.some Jvm.ClassFile.FieldType.int) 1 7 := ⟨⟨mem_g (i := 399) (by decide +kernel) rfl, mg 27 (by decide +kernel)⟩, by decide +kernel, by decide +kernel, by decide, mg 397 (by decide +kernel), mg 398 (by decide +kernel), _, rfl, rfl⟩
def y_X4_faresForMost : MethodName := ⟨"ActsPaid$Programme", "faresForMost", "(LActsPaid$Stage;I)I"⟩
def t_X4_faresForMost : List (Nat × Ao) := [
  (0, (0, (-1), 0, 0, 0, 0, [])),
  (1, (13, 0, 0, 2, 0, 0, [])),
  (2, (0, 0, 0, 0, 0, 0, [])),
  (3, (13, 0, 0, 3, 0, 0, [])),
  (4, (0, 0, 0, 0, 0, 0, [])),
  (5, (14, 0, 0, 4, 0, 0, [])),
  (7, (8, 0, 0, 4, 0, 0, [])),
  (9, (2, 310, 0, 0, 0, 0, [])),
  (12, (50, 0, 0, 57, 0, 0, [])),
  (15, (9, 0, 0, 0, 0, 0, [])),
  (16, (8, 0, 0, 4, 0, 0, [])),
  (18, (1, 10, 0, 0, 0, 0, [])),
  (20, (22, 0, 0, 0, 0, 0, [])),
  (21, (56, 0, 0, 15, 225, 93, [])),
  (24, (9, 0, 0, 0, 0, 0, [])),
  (25, (8, 0, 0, 4, 0, 0, [])),
  (27, (1, 10, 0, 0, 0, 0, [])),
  (29, (23, 0, 0, 0, 0, 0, [])),
  (30, (56, 0, 0, 21, 226, 98, [])),
  (33, (9, 0, 0, 0, 0, 0, [])),
  (34, (62, 0, 0, 24, 0, 0, [])),
  (37, (14, 0, 0, 5, 0, 0, [])),
  (39, (8, 0, 0, 5, 0, 0, [])),
  (41, (7, 0, 0, 2, 0, 0, [])),
  (42, (52, 0, 0, 51, 0, 0, [])),
  (45, (8, 0, 0, 5, 0, 0, [])),
  (47, (13, 0, 0, 2, 0, 0, [])),
  (48, (8, 0, 0, 4, 0, 0, [])),
  (50, (13, 0, 0, 3, 0, 0, [])),
  (51, (39, 1, 0, 4, 0, 0, [])),
  (54, (40, 0, 0, 7, 0, 0, [])),
  (57, (7, 0, 0, 1, 0, 0, [])),
  (58, (69, 0, 0, 94, 0, 0, [(0, 84), (1, 89)])),
  (84, (7, 0, 0, 3, 0, 0, [])),
  (85, (1, 10, 0, 0, 0, 0, [])),
  (87, (22, 0, 0, 0, 0, 0, [])),
  (88, (64, 0, 0, 0, 0, 0, [])),
  (89, (7, 0, 0, 3, 0, 0, [])),
  (90, (1, 10, 0, 0, 0, 0, [])),
  (92, (23, 0, 0, 0, 0, 0, [])),
  (93, (64, 0, 0, 0, 0, 0, [])),
  (94, (7, 0, 0, 2, 0, 0, [])),
  (95, (64, 0, 0, 0, 0, 0, []))]
def e_X4_faresForMost : Ev := (t_X4_faresForMost, [(24, (1, 1, 0, 8, s_X8_allPay))], 1, 0, false, 0, fun _ => 0)
def s_X4_faresForMost : Sp := spc e_X4_faresForMost 6
theorem m_X4_faresForMost : monoE e_X4_faresForMost := monoE_of (cons_all (p_X8_allPay) nil_all)
theorem p_X4_faresForMost : mono s_X4_faresForMost := spc_mono m_X4_faresForMost _
theorem k_X4_faresForMost (l : Launch) : Con l y_X4_faresForMost prog_6_method_2_code 6 (Option.some Jvm.ClassFile.FieldType.int) { frames := 5, cells := 0, slots := 0, locals := 112 } 1 0 s_X4_faresForMost := con_of l e_X4_faresForMost y_X4_faresForMost prog_6_method_2_code 6 (Option.some Jvm.ClassFile.FieldType.int) _ (by decide +kernel) (cons_all (clV (k_X8_allPay l) f_X8_allPay ⟨rfl, rfl, Nat.le_of_ble_eq_true rfl, Nat.le_of_ble_eq_true rfl⟩ (mg 434 (by decide +kernel))) nil_all) (Or.inl (by decide +kernel))
theorem f_X4_faresForMost : calS y_X4_faresForMost prog_6_method_2_code 6 (Option.some Jvm.ClassFile.FieldType.int) 2 := ⟨⟨mem_g (i := 433) (by decide +kernel) rfl, mg 30 (by decide +kernel)⟩, by decide +kernel, by decide +kernel, mg 432 (by decide +kernel)⟩
def y_X8_orderByNumbers : MethodName := ⟨"ActsPaid$Stage", "orderByNumbers", "()V"⟩
def t_X8_orderByNumbers : List (Nat × Ao) := [
  (0, (0, 0, 0, 0, 0, 0, [])),
  (1, (13, 0, 0, 1, 0, 0, [])),
  (2, (7, 0, 0, 1, 0, 0, [])),
  (3, (1, 6, 0, 0, 0, 0, [])),
  (5, (50, 0, 0, 23, 0, 0, [])),
  (8, (9, 0, 0, 0, 0, 0, [])),
  (9, (55, 0, 0, 24, 230, 110, [])),
  (12, (7, 0, 0, 1, 0, 0, [])),
  (13, (7, 0, 0, 1, 0, 0, [])),
  (14, (63, 0, 0, 69, 0, 0, [])),
  (17, (39, 1, 0, 1, 0, 0, [])),
  (20, (40, 0, 0, 2, 0, 0, [])),
  (23, (66, 0, 0, 0, 0, 0, []))]
def e_X8_orderByNumbers : Ev := (t_X8_orderByNumbers, [(69, (3, 0, 0, 0, s_X5_put))], 0, 0, false, 0, fun _ => 0)
def s_X8_orderByNumbers : Sp := spc e_X8_orderByNumbers 2
theorem m_X8_orderByNumbers : monoE e_X8_orderByNumbers := monoE_of (cons_all (p_X5_put) nil_all)
theorem p_X8_orderByNumbers : mono s_X8_orderByNumbers := spc_mono m_X8_orderByNumbers _
theorem k_X8_orderByNumbers (l : Launch) : Con l y_X8_orderByNumbers prog_10_method_4_code 2 (Option.none : Option Jvm.ClassFile.FieldType) { frames := 1, cells := 0, slots := 0, locals := 22 } 0 0 s_X8_orderByNumbers := con_of l e_X8_orderByNumbers y_X8_orderByNumbers prog_10_method_4_code 2 (Option.none : Option Jvm.ClassFile.FieldType) _ (by decide +kernel) (cons_all (clS (k_X5_put l) f_X5_put ⟨rfl, rfl, Nat.le_of_ble_eq_true rfl, Nat.le_of_ble_eq_true rfl⟩ (mg 269 (by decide +kernel))) nil_all) (Or.inl (by decide +kernel))
theorem f_X8_orderByNumbers : calV y_X8_orderByNumbers prog_10_method_4_code 2 (Option.none : Option Jvm.ClassFile.FieldType) 1 7 := ⟨⟨mem_g (i := 268) (by decide +kernel) rfl, mg 27 (by decide +kernel)⟩, by decide +kernel, by decide +kernel, by decide, mg 266 (by decide +kernel), mg 267 (by decide +kernel), _, rfl, rfl⟩
def y_X8_keepsMust : MethodName := ⟨"ActsPaid$Stage", "keepsMust", "()Z"⟩
def t_X8_keepsMust : List (Nat × Ao) := [
  (0, (0, 0, 0, 0, 0, 0, [])),
  (1, (13, 0, 0, 1, 0, 0, [])),
  (2, (0, 0, 0, 0, 0, 0, [])),
  (3, (13, 0, 0, 2, 0, 0, [])),
  (4, (7, 0, 0, 2, 0, 0, [])),
  (5, (9, 0, 0, 0, 0, 0, [])),
  (6, (55, 0, 0, 9, 224, 88, [])),
  (9, (50, 0, 0, 48, 0, 0, [])),
  (12, (9, 0, 0, 0, 0, 0, [])),
  (13, (55, 0, 0, 24, 230, 110, [])),
  (16, (7, 0, 0, 2, 0, 0, [])),
  (17, (63, 0, 0, 77, 0, 0, [])),
  (20, (13, 0, 0, 3, 0, 0, [])),
  (21, (9, 0, 0, 0, 0, 0, [])),
  (22, (55, 0, 0, 34, 233, 117, [])),
  (25, (7, 0, 0, 3, 0, 0, [])),
  (26, (63, 0, 0, 77, 0, 0, [])),
  (29, (7, 0, 0, 1, 0, 0, [])),
  (30, (25, 0, 0, 0, 0, 0, [])),
  (31, (41, 0, 0, 36, 0, 0, [])),
  (34, (0, 0, 0, 0, 0, 0, [])),
  (35, (64, 0, 0, 0, 0, 0, [])),
  (36, (7, 0, 0, 1, 0, 0, [])),
  (37, (0, 1, 0, 0, 0, 0, [])),
  (38, (7, 0, 0, 3, 0, 0, [])),
  (39, (28, 0, 0, 0, 0, 0, [])),
  (40, (26, 0, 0, 0, 0, 0, [])),
  (41, (13, 0, 0, 1, 0, 0, [])),
  (42, (39, 1, 0, 2, 0, 0, [])),
  (45, (40, 0, 0, 4, 0, 0, [])),
  (48, (0, 1, 0, 0, 0, 0, [])),
  (49, (64, 0, 0, 0, 0, 0, []))]
def e_X8_keepsMust : Ev := (t_X8_keepsMust, [(77, (2, 1, 0, 0, s_X5_at))], 4, 0, false, 0, fun _ => 0)
def s_X8_keepsMust : Sp := spc e_X8_keepsMust 4
theorem m_X8_keepsMust : monoE e_X8_keepsMust := monoE_of (cons_all (p_X5_at) nil_all)
theorem p_X8_keepsMust : mono s_X8_keepsMust := spc_mono m_X8_keepsMust _
theorem k_X8_keepsMust (l : Launch) : Con l y_X8_keepsMust prog_10_method_19_code 4 (Option.some Jvm.ClassFile.FieldType.boolean) { frames := 1, cells := 0, slots := 0, locals := 21 } 1 0 s_X8_keepsMust := con_of l e_X8_keepsMust y_X8_keepsMust prog_10_method_19_code 4 (Option.some Jvm.ClassFile.FieldType.boolean) _ (by decide +kernel) (cons_all (clS (k_X5_at l) f_X5_at ⟨rfl, rfl, Nat.le_of_ble_eq_true rfl, Nat.le_of_ble_eq_true rfl⟩ (mg 365 (by decide +kernel))) nil_all) (Or.inl (by decide +kernel))
theorem f_X8_keepsMust : calV y_X8_keepsMust prog_10_method_19_code 4 (Option.some Jvm.ClassFile.FieldType.boolean) 1 7 := ⟨⟨mem_g (i := 460) (by decide +kernel) rfl, mg 27 (by decide +kernel)⟩, by decide +kernel, by decide +kernel, by decide, mg 458 (by decide +kernel), mg 459 (by decide +kernel), _, rfl, rfl⟩
def y_X5_copy : MethodName := ⟨"ActsPaid$Rows", "copy", "([I[I)V"⟩
def t_X5_copy : List (Nat × Ao) := [
  (0, (9, 0, 0, 0, 0, 0, [])),
  (1, (53, 0, 0, 8, 0, 0, [])),
  (4, (9, 0, 0, 1, 0, 0, [])),
  (5, (54, 0, 0, 9, 0, 0, [])),
  (8, (66, 0, 0, 0, 0, 0, [])),
  (9, (0, 0, 0, 0, 0, 0, [])),
  (10, (13, 0, 0, 2, 0, 0, [])),
  (11, (7, 0, 0, 2, 0, 0, [])),
  (12, (9, 0, 0, 0, 0, 0, [])),
  (13, (61, 0, 0, 0, 0, 0, [])),
  (14, (50, 0, 0, 35, 0, 0, [])),
  (17, (7, 0, 0, 2, 0, 0, [])),
  (18, (9, 0, 0, 1, 0, 0, [])),
  (19, (61, 0, 0, 0, 0, 0, [])),
  (20, (50, 0, 0, 35, 0, 0, [])),
  (23, (9, 0, 0, 1, 0, 0, [])),
  (24, (7, 0, 0, 2, 0, 0, [])),
  (25, (9, 0, 0, 0, 0, 0, [])),
  (26, (7, 0, 0, 2, 0, 0, [])),
  (27, (57, 0, 0, 0, 0, 0, [])),
  (28, (58, 0, 0, 0, 0, 0, [])),
  (29, (39, 1, 0, 2, 0, 0, [])),
  (32, (40, 0, 0, 11, 0, 0, [])),
  (35, (66, 0, 0, 0, 0, 0, []))]
def e_X5_copy : Ev := (t_X5_copy, [], 0, 0, false, 0, fun _ => 0)
def s_X5_copy : Sp := spc e_X5_copy 3
theorem m_X5_copy : monoE e_X5_copy := monoE_of nil_all
theorem p_X5_copy : mono s_X5_copy := spc_mono m_X5_copy _
theorem k_X5_copy (l : Launch) : Con l y_X5_copy prog_7_method_5_code 3 (Option.none : Option Jvm.ClassFile.FieldType) { frames := 0, cells := 0, slots := 0, locals := 0 } 0 0 s_X5_copy := con_of l e_X5_copy y_X5_copy prog_7_method_5_code 3 (Option.none : Option Jvm.ClassFile.FieldType) _ (by decide +kernel) nil_all (Or.inl (by decide +kernel))
theorem f_X5_copy : calS y_X5_copy prog_7_method_5_code 3 (Option.none : Option Jvm.ClassFile.FieldType) 2 := ⟨⟨mem_g (i := 425) (by decide +kernel) rfl, mg 35 (by decide +kernel)⟩, by decide +kernel, by decide +kernel, mg 424 (by decide +kernel)⟩
def y_X5_swap : MethodName := ⟨"ActsPaid$Rows", "swap", "([III)V"⟩
def t_X5_swap : List (Nat × Ao) := [
  (0, (9, 0, 0, 0, 0, 0, [])),
  (1, (7, 0, 0, 1, 0, 0, [])),
  (2, (63, 0, 0, 7, 0, 0, [])),
  (5, (13, 0, 0, 3, 0, 0, [])),
  (6, (9, 0, 0, 0, 0, 0, [])),
  (7, (7, 0, 0, 1, 0, 0, [])),
  (8, (9, 0, 0, 0, 0, 0, [])),
  (9, (7, 0, 0, 2, 0, 0, [])),
  (10, (63, 0, 0, 7, 0, 0, [])),
  (13, (63, 0, 0, 13, 0, 0, [])),
  (16, (9, 0, 0, 0, 0, 0, [])),
  (17, (7, 0, 0, 2, 0, 0, [])),
  (18, (7, 0, 0, 3, 0, 0, [])),
  (19, (63, 0, 0, 13, 0, 0, [])),
  (22, (66, 0, 0, 0, 0, 0, []))]
def e_X5_swap : Ev := (t_X5_swap, [(7, (2, 1, 0, 0, s_X5_at)), (13, (3, 0, 0, 0, s_X5_put))], 0, 0, false, 0, fun _ => 0)
def s_X5_swap : Sp := spc e_X5_swap 4
theorem m_X5_swap : monoE e_X5_swap := monoE_of (cons_all (p_X5_at) (cons_all (p_X5_put) nil_all))
theorem p_X5_swap : mono s_X5_swap := spc_mono m_X5_swap _
theorem k_X5_swap (l : Launch) : Con l y_X5_swap prog_7_method_4_code 4 (Option.none : Option Jvm.ClassFile.FieldType) { frames := 1, cells := 0, slots := 0, locals := 22 } 0 0 s_X5_swap := con_of l e_X5_swap y_X5_swap prog_7_method_4_code 4 (Option.none : Option Jvm.ClassFile.FieldType) _ (by decide +kernel) (cons_all (clS (k_X5_at l) f_X5_at ⟨rfl, rfl, Nat.le_of_ble_eq_true rfl, Nat.le_of_ble_eq_true rfl⟩ (mg 469 (by decide +kernel))) (cons_all (clS (k_X5_put l) f_X5_put ⟨rfl, rfl, Nat.le_of_ble_eq_true rfl, Nat.le_of_ble_eq_true rfl⟩ (mg 470 (by decide +kernel))) nil_all)) (Or.inl (by decide +kernel))
theorem f_X5_swap : calS y_X5_swap prog_7_method_4_code 4 (Option.none : Option Jvm.ClassFile.FieldType) 3 := ⟨⟨mem_g (i := 468) (by decide +kernel) rfl, mg 35 (by decide +kernel)⟩, by decide +kernel, by decide +kernel, mg 467 (by decide +kernel)⟩
def y_X4_nextByDigits : MethodName := ⟨"ActsPaid$Programme", "nextByDigits", "([II)Z"⟩
def t_X4_nextByDigits : List (Nat × Ao) := [
  (0, (7, 0, 0, 1, 0, 0, [])),
  (1, (0, 2, 0, 0, 0, 0, [])),
  (2, (20, 0, 0, 0, 0, 0, [])),
  (3, (13, 0, 0, 2, 0, 0, [])),
  (4, (7, 0, 0, 2, 0, 0, [])),
  (5, (43, 0, 0, 29, 0, 0, [])),
  (8, (9, 0, 0, 0, 0, 0, [])),
  (9, (7, 0, 0, 2, 0, 0, [])),
  (10, (63, 0, 0, 51, 0, 0, [])),
  (13, (9, 0, 0, 0, 0, 0, [])),
  (14, (7, 0, 0, 2, 0, 0, [])),
  (15, (0, 1, 0, 0, 0, 0, [])),
  (16, (19, 0, 0, 0, 0, 0, [])),
  (17, (63, 0, 0, 51, 0, 0, [])),
  (20, (52, 0, 0, 29, 0, 0, [])),
  (23, (39, (-1), 0, 2, 0, 0, [])),
  (26, (40, 0, 0, 4, 0, 0, [])),
  (29, (7, 0, 0, 2, 0, 0, [])),
  (30, (44, 0, 0, 35, 0, 0, [])),
  (33, (0, 0, 0, 0, 0, 0, [])),
  (34, (64, 0, 0, 0, 0, 0, [])),
  (35, (7, 0, 0, 1, 0, 0, [])),
  (36, (0, 1, 0, 0, 0, 0, [])),
  (37, (20, 0, 0, 0, 0, 0, [])),
  (38, (13, 0, 0, 3, 0, 0, [])),
  (39, (7, 0, 0, 3, 0, 0, [])),
  (40, (7, 0, 0, 2, 0, 0, [])),
  (41, (52, 0, 0, 63, 0, 0, [])),
  (44, (9, 0, 0, 0, 0, 0, [])),
  (45, (7, 0, 0, 3, 0, 0, [])),
  (46, (63, 0, 0, 51, 0, 0, [])),
  (49, (9, 0, 0, 0, 0, 0, [])),
  (50, (7, 0, 0, 2, 0, 0, [])),
  (51, (63, 0, 0, 51, 0, 0, [])),
  (54, (50, 0, 0, 63, 0, 0, [])),
  (57, (39, (-1), 0, 3, 0, 0, [])),
  (60, (40, 0, 0, 39, 0, 0, [])),
  (63, (9, 0, 0, 0, 0, 0, [])),
  (64, (7, 0, 0, 2, 0, 0, [])),
  (65, (7, 0, 0, 3, 0, 0, [])),
  (66, (63, 0, 0, 55, 0, 0, [])),
  (69, (7, 0, 0, 2, 0, 0, [])),
  (70, (0, 1, 0, 0, 0, 0, [])),
  (71, (19, 0, 0, 0, 0, 0, [])),
  (72, (14, 0, 0, 4, 0, 0, [])),
  (74, (7, 0, 0, 1, 0, 0, [])),
  (75, (0, 1, 0, 0, 0, 0, [])),
  (76, (20, 0, 0, 0, 0, 0, [])),
  (77, (14, 0, 0, 5, 0, 0, [])),
  (79, (8, 0, 0, 4, 0, 0, [])),
  (81, (8, 0, 0, 5, 0, 0, [])),
  (83, (50, 0, 0, 103, 0, 0, [])),
  (86, (9, 0, 0, 0, 0, 0, [])),
  (87, (8, 0, 0, 4, 0, 0, [])),
  (89, (8, 0, 0, 5, 0, 0, [])),
  (91, (63, 0, 0, 55, 0, 0, [])),
  (94, (39, 1, 0, 4, 0, 0, [])),
  (97, (39, (-1), 0, 5, 0, 0, [])),
  (100, (40, 0, 0, 79, 0, 0, [])),
  (103, (0, 1, 0, 0, 0, 0, [])),
  (104, (64, 0, 0, 0, 0, 0, []))]
def e_X4_nextByDigits : Ev := (t_X4_nextByDigits, [(51, (2, 1, 0, 0, s_X5_at)), (55, (3, 0, 0, 0, s_X5_swap))], 4, 0, false, 0, fun _ => 0)
def s_X4_nextByDigits : Sp := spc e_X4_nextByDigits 6
theorem m_X4_nextByDigits : monoE e_X4_nextByDigits := monoE_of (cons_all (p_X5_at) (cons_all (p_X5_swap) nil_all))
theorem p_X4_nextByDigits : mono s_X4_nextByDigits := spc_mono m_X4_nextByDigits _
theorem k_X4_nextByDigits (l : Launch) : Con l y_X4_nextByDigits prog_6_method_4_code 6 (Option.some Jvm.ClassFile.FieldType.boolean) { frames := 2, cells := 0, slots := 0, locals := 45 } 1 0 s_X4_nextByDigits := con_of l e_X4_nextByDigits y_X4_nextByDigits prog_6_method_4_code 6 (Option.some Jvm.ClassFile.FieldType.boolean) _ (by decide +kernel) (cons_all (clS (k_X5_at l) f_X5_at ⟨rfl, rfl, Nat.le_of_ble_eq_true rfl, Nat.le_of_ble_eq_true rfl⟩ (mg 465 (by decide +kernel))) (cons_all (clS (k_X5_swap l) f_X5_swap ⟨rfl, rfl, Nat.le_of_ble_eq_true rfl, Nat.le_of_ble_eq_true rfl⟩ (mg 466 (by decide +kernel))) nil_all)) (Or.inl (by decide +kernel))
theorem f_X4_nextByDigits : calS y_X4_nextByDigits prog_6_method_4_code 6 (Option.some Jvm.ClassFile.FieldType.boolean) 2 := ⟨⟨mem_g (i := 464) (by decide +kernel) rfl, mg 30 (by decide +kernel)⟩, by decide +kernel, by decide +kernel, mg 463 (by decide +kernel)⟩
def y_X4_orderForMost : MethodName := ⟨"ActsPaid$Programme", "orderForMost", "(LActsPaid$Stage;I)I"⟩
def t_X4_orderForMost : List (Nat × Ao) := [
  (0, (0, (-1), 0, 0, 0, 0, [])),
  (1, (13, 0, 0, 3, 0, 0, [])),
  (2, (9, 0, 0, 1, 0, 0, [])),
  (3, (62, 0, 0, 28, 0, 0, [])),
  (6, (0, 0, 0, 0, 0, 0, [])),
  (7, (14, 0, 0, 4, 0, 0, [])),
  (9, (8, 0, 0, 4, 0, 0, [])),
  (11, (2, 720, 0, 0, 0, 0, [])),
  (14, (50, 0, 0, 77, 0, 0, [])),
  (17, (9, 0, 0, 1, 0, 0, [])),
  (18, (62, 0, 0, 31, 0, 0, [])),
  (21, (41, 0, 0, 31, 0, 0, [])),
  (24, (9, 0, 0, 1, 0, 0, [])),
  (25, (62, 0, 0, 24, 0, 0, [])),
  (28, (40, 0, 0, 32, 0, 0, [])),
  (31, (0, (-1), 0, 0, 0, 0, [])),
  (32, (14, 0, 0, 5, 0, 0, [])),
  (34, (8, 0, 0, 5, 0, 0, [])),
  (36, (7, 0, 0, 3, 0, 0, [])),
  (37, (52, 0, 0, 54, 0, 0, [])),
  (40, (8, 0, 0, 5, 0, 0, [])),
  (42, (13, 0, 0, 3, 0, 0, [])),
  (43, (9, 0, 0, 1, 0, 0, [])),
  (44, (55, 0, 0, 35, 230, 111, [])),
  (47, (9, 0, 0, 0, 0, 0, [])),
  (48, (55, 0, 0, 9, 128, 170, [])),
  (51, (63, 0, 0, 38, 0, 0, [])),
  (54, (9, 0, 0, 1, 0, 0, [])),
  (55, (55, 0, 0, 35, 230, 111, [])),
  (58, (9, 0, 0, 1, 0, 0, [])),
  (59, (55, 0, 0, 44, 224, 91, [])),
  (62, (63, 0, 0, 47, 0, 0, [])),
  (65, (42, 0, 0, 71, 0, 0, [])),
  (68, (40, 0, 0, 77, 0, 0, [])),
  (71, (39, 1, 0, 4, 0, 0, [])),
  (74, (40, 0, 0, 9, 0, 0, [])),
  (77, (7, 0, 0, 2, 0, 0, [])),
  (78, (0, (-1), 0, 0, 0, 0, [])),
  (79, (48, 0, 0, 86, 0, 0, [])),
  (82, (7, 0, 0, 3, 0, 0, [])),
  (83, (40, 0, 0, 94, 0, 0, [])),
  (86, (9, 0, 0, 0, 0, 0, [])),
  (87, (55, 0, 0, 9, 128, 170, [])),
  (90, (7, 0, 0, 2, 0, 0, [])),
  (91, (63, 0, 0, 51, 0, 0, [])),
  (94, (64, 0, 0, 0, 0, 0, []))]
def e_X4_orderForMost : Ev := (t_X4_orderForMost, [(24, (1, 1, 0, 8, s_X8_allPay)), (28, (1, 0, 0, 8, s_X8_orderByNumbers)), (31, (1, 1, 0, 8, s_X8_keepsMust)), (38, (2, 0, 0, 0, s_X5_copy)), (47, (2, 1, 0, 0, s_X4_nextByDigits)), (51, (2, 1, 0, 0, s_X5_at))], 1, 0, false, 0, fun _ => 0)
def s_X4_orderForMost : Sp := spc e_X4_orderForMost 6
theorem m_X4_orderForMost : monoE e_X4_orderForMost := monoE_of (cons_all (p_X8_allPay) (cons_all (p_X8_orderByNumbers) (cons_all (p_X8_keepsMust) (cons_all (p_X5_copy) (cons_all (p_X4_nextByDigits) (cons_all (p_X5_at) nil_all))))))
theorem p_X4_orderForMost : mono s_X4_orderForMost := spc_mono m_X4_orderForMost _
theorem k_X4_orderForMost (l : Launch) : Con l y_X4_orderForMost prog_6_method_3_code 6 (Option.some Jvm.ClassFile.FieldType.int) { frames := 5, cells := 0, slots := 0, locals := 112 } 1 0 s_X4_orderForMost := con_of l e_X4_orderForMost y_X4_orderForMost prog_6_method_3_code 6 (Option.some Jvm.ClassFile.FieldType.int) _ (by decide +kernel) (cons_all (clV (k_X8_allPay l) f_X8_allPay ⟨rfl, rfl, Nat.le_of_ble_eq_true rfl, Nat.le_of_ble_eq_true rfl⟩ (mg 434 (by decide +kernel))) (cons_all (clV (k_X8_orderByNumbers l) f_X8_orderByNumbers ⟨rfl, rfl, Nat.le_of_ble_eq_true rfl, Nat.le_of_ble_eq_true rfl⟩ (mg 456 (by decide +kernel))) (cons_all (clV (k_X8_keepsMust l) f_X8_keepsMust ⟨rfl, rfl, Nat.le_of_ble_eq_true rfl, Nat.le_of_ble_eq_true rfl⟩ (mg 457 (by decide +kernel))) (cons_all (clS (k_X5_copy l) f_X5_copy ⟨rfl, rfl, Nat.le_of_ble_eq_true rfl, Nat.le_of_ble_eq_true rfl⟩ (mg 461 (by decide +kernel))) (cons_all (clS (k_X4_nextByDigits l) f_X4_nextByDigits ⟨rfl, rfl, Nat.le_of_ble_eq_true rfl, Nat.le_of_ble_eq_true rfl⟩ (mg 462 (by decide +kernel))) (cons_all (clS (k_X5_at l) f_X5_at ⟨rfl, rfl, Nat.le_of_ble_eq_true rfl, Nat.le_of_ble_eq_true rfl⟩ (mg 465 (by decide +kernel))) nil_all)))))) (Or.inl (by decide +kernel))
theorem f_X4_orderForMost : calV y_X4_orderForMost prog_6_method_3_code 6 (Option.some Jvm.ClassFile.FieldType.int) 3 4 := ⟨⟨mem_g (i := 455) (by decide +kernel) rfl, mg 30 (by decide +kernel)⟩, by decide +kernel, by decide +kernel, by decide, mg 453 (by decide +kernel), mg 454 (by decide +kernel), _, rfl, rfl⟩
def y_X8_worthTo : MethodName := ⟨"ActsPaid$Stage", "worthTo", "(II)I"⟩
def t_X8_worthTo : List (Nat × Ao) := [
  (0, (9, 0, 0, 0, 0, 0, [])),
  (1, (55, 0, 0, 28, 231, 113, [])),
  (4, (7, 0, 0, 1, 0, 0, [])),
  (5, (1, 6, 0, 0, 0, 0, [])),
  (7, (21, 0, 0, 0, 0, 0, [])),
  (8, (7, 0, 0, 2, 0, 0, [])),
  (9, (19, 0, 0, 0, 0, 0, [])),
  (10, (63, 0, 0, 77, 0, 0, [])),
  (13, (64, 0, 0, 0, 0, 0, []))]
def e_X8_worthTo : Ev := (t_X8_worthTo, [(77, (2, 1, 0, 0, s_X5_at))], 1, 0, false, 0, fun _ => 0)
def s_X8_worthTo : Sp := spc e_X8_worthTo 3
theorem m_X8_worthTo : monoE e_X8_worthTo := monoE_of (cons_all (p_X5_at) nil_all)
theorem p_X8_worthTo : mono s_X8_worthTo := spc_mono m_X8_worthTo _
theorem k_X8_worthTo (l : Launch) : Con l y_X8_worthTo prog_10_method_9_code 3 (Option.some Jvm.ClassFile.FieldType.int) { frames := 1, cells := 0, slots := 0, locals := 21 } 1 0 s_X8_worthTo := con_of l e_X8_worthTo y_X8_worthTo prog_10_method_9_code 3 (Option.some Jvm.ClassFile.FieldType.int) _ (by decide +kernel) (cons_all (clS (k_X5_at l) f_X5_at ⟨rfl, rfl, Nat.le_of_ble_eq_true rfl, Nat.le_of_ble_eq_true rfl⟩ (mg 365 (by decide +kernel))) nil_all) (Or.inl (by decide +kernel))
theorem f_X8_worthTo : calV y_X8_worthTo prog_10_method_9_code 3 (Option.some Jvm.ClassFile.FieldType.int) 3 7 := ⟨⟨mem_g (i := 364) (by decide +kernel) rfl, mg 27 (by decide +kernel)⟩, by decide +kernel, by decide +kernel, by decide, mg 362 (by decide +kernel), mg 363 (by decide +kernel), _, rfl, rfl⟩
def y_X8_putWorth : MethodName := ⟨"ActsPaid$Stage", "putWorth", "(III)V"⟩
def t_X8_putWorth : List (Nat × Ao) := [
  (0, (9, 0, 0, 0, 0, 0, [])),
  (1, (55, 0, 0, 28, 231, 113, [])),
  (4, (7, 0, 0, 1, 0, 0, [])),
  (5, (1, 6, 0, 0, 0, 0, [])),
  (7, (21, 0, 0, 0, 0, 0, [])),
  (8, (7, 0, 0, 2, 0, 0, [])),
  (9, (19, 0, 0, 0, 0, 0, [])),
  (10, (7, 0, 0, 3, 0, 0, [])),
  (11, (63, 0, 0, 69, 0, 0, [])),
  (14, (66, 0, 0, 0, 0, 0, []))]
def e_X8_putWorth : Ev := (t_X8_putWorth, [(69, (3, 0, 0, 0, s_X5_put))], 0, 0, false, 0, fun _ => 0)
def s_X8_putWorth : Sp := spc e_X8_putWorth 4
theorem m_X8_putWorth : monoE e_X8_putWorth := monoE_of (cons_all (p_X5_put) nil_all)
theorem p_X8_putWorth : mono s_X8_putWorth := spc_mono m_X8_putWorth _
theorem k_X8_putWorth (l : Launch) : Con l y_X8_putWorth prog_10_method_10_code 4 (Option.none : Option Jvm.ClassFile.FieldType) { frames := 1, cells := 0, slots := 0, locals := 22 } 0 0 s_X8_putWorth := con_of l e_X8_putWorth y_X8_putWorth prog_10_method_10_code 4 (Option.none : Option Jvm.ClassFile.FieldType) _ (by decide +kernel) (cons_all (clS (k_X5_put l) f_X5_put ⟨rfl, rfl, Nat.le_of_ble_eq_true rfl, Nat.le_of_ble_eq_true rfl⟩ (mg 269 (by decide +kernel))) nil_all) (Or.inl (by decide +kernel))
theorem f_X8_putWorth : calV y_X8_putWorth prog_10_method_10_code 4 (Option.none : Option Jvm.ClassFile.FieldType) 4 7 := ⟨⟨mem_g (i := 337) (by decide +kernel) rfl, mg 27 (by decide +kernel)⟩, by decide +kernel, by decide +kernel, by decide, mg 335 (by decide +kernel), mg 336 (by decide +kernel), _, rfl, rfl⟩
def y_X4_weepAt : MethodName := ⟨"ActsPaid$Programme", "weepAt", "(LActsPaid$Stage;II)V"⟩
def t_X4_weepAt : List (Nat × Ao) := [
  (0, (0, 0, 0, 0, 0, 0, [])),
  (1, (13, 0, 0, 3, 0, 0, [])),
  (2, (7, 0, 0, 3, 0, 0, [])),
  (3, (1, 8, 0, 0, 0, 0, [])),
  (5, (50, 0, 0, 28, 0, 0, [])),
  (8, (9, 0, 0, 0, 0, 0, [])),
  (9, (7, 0, 0, 3, 0, 0, [])),
  (10, (7, 0, 0, 1, 0, 0, [])),
  (11, (9, 0, 0, 0, 0, 0, [])),
  (12, (7, 0, 0, 3, 0, 0, [])),
  (13, (7, 0, 0, 1, 0, 0, [])),
  (14, (62, 0, 0, 63, 0, 0, [])),
  (17, (7, 0, 0, 2, 0, 0, [])),
  (18, (19, 0, 0, 0, 0, 0, [])),
  (19, (62, 0, 0, 67, 0, 0, [])),
  (22, (39, 1, 0, 3, 0, 0, [])),
  (25, (40, 0, 0, 2, 0, 0, [])),
  (28, (66, 0, 0, 0, 0, 0, []))]
def e_X4_weepAt : Ev := (t_X4_weepAt, [(63, (3, 1, 0, 8, s_X8_worthTo)), (67, (4, 0, 0, 8, s_X8_putWorth))], 0, 0, false, 0, fun _ => 0)
def s_X4_weepAt : Sp := spc e_X4_weepAt 4
theorem m_X4_weepAt : monoE e_X4_weepAt := monoE_of (cons_all (p_X8_worthTo) (cons_all (p_X8_putWorth) nil_all))
theorem p_X4_weepAt : mono s_X4_weepAt := spc_mono m_X4_weepAt _
theorem k_X4_weepAt (l : Launch) : Con l y_X4_weepAt prog_6_method_6_code 4 (Option.none : Option Jvm.ClassFile.FieldType) { frames := 2, cells := 0, slots := 0, locals := 45 } 0 0 s_X4_weepAt := con_of l e_X4_weepAt y_X4_weepAt prog_6_method_6_code 4 (Option.none : Option Jvm.ClassFile.FieldType) _ (by decide +kernel) (cons_all (clV (k_X8_worthTo l) f_X8_worthTo ⟨rfl, rfl, Nat.le_of_ble_eq_true rfl, Nat.le_of_ble_eq_true rfl⟩ (mg 481 (by decide +kernel))) (cons_all (clV (k_X8_putWorth l) f_X8_putWorth ⟨rfl, rfl, Nat.le_of_ble_eq_true rfl, Nat.le_of_ble_eq_true rfl⟩ (mg 482 (by decide +kernel))) nil_all)) (Or.inl (by decide +kernel))
theorem f_X4_weepAt : calS y_X4_weepAt prog_6_method_6_code 4 (Option.none : Option Jvm.ClassFile.FieldType) 3 := ⟨⟨mem_g (i := 480) (by decide +kernel) rfl, mg 30 (by decide +kernel)⟩, by decide +kernel, by decide +kernel, mg 479 (by decide +kernel)⟩
def y_X4_actForClaque : MethodName := ⟨"ActsPaid$Programme", "actForClaque", "(LActsPaid$Stage;II)I"⟩
def t_X4_actForClaque : List (Nat × Ao) := [
  (0, (0, (-1), 0, 0, 0, 0, [])),
  (1, (13, 0, 0, 3, 0, 0, [])),
  (2, (0, 0, 0, 0, 0, 0, [])),
  (3, (14, 0, 0, 4, 0, 0, [])),
  (5, (0, 0, 0, 0, 0, 0, [])),
  (6, (14, 0, 0, 5, 0, 0, [])),
  (8, (8, 0, 0, 5, 0, 0, [])),
  (10, (9, 0, 0, 0, 0, 0, [])),
  (11, (55, 0, 0, 44, 224, 91, [])),
  (14, (50, 0, 0, 57, 0, 0, [])),
  (17, (9, 0, 0, 0, 0, 0, [])),
  (18, (8, 0, 0, 5, 0, 0, [])),
  (20, (7, 0, 0, 1, 0, 0, [])),
  (21, (63, 0, 0, 59, 0, 0, [])),
  (24, (9, 0, 0, 0, 0, 0, [])),
  (25, (62, 0, 0, 24, 0, 0, [])),
  (28, (14, 0, 0, 6, 0, 0, [])),
  (30, (9, 0, 0, 0, 0, 0, [])),
  (31, (8, 0, 0, 5, 0, 0, [])),
  (33, (7, 0, 0, 1, 0, 0, [])),
  (34, (24, 0, 0, 0, 0, 0, [])),
  (35, (63, 0, 0, 59, 0, 0, [])),
  (38, (8, 0, 0, 6, 0, 0, [])),
  (40, (7, 0, 0, 3, 0, 0, [])),
  (41, (52, 0, 0, 51, 0, 0, [])),
  (44, (8, 0, 0, 6, 0, 0, [])),
  (46, (13, 0, 0, 3, 0, 0, [])),
  (47, (8, 0, 0, 5, 0, 0, [])),
  (49, (14, 0, 0, 4, 0, 0, [])),
  (51, (39, 1, 0, 5, 0, 0, [])),
  (54, (40, 0, 0, 8, 0, 0, [])),
  (57, (7, 0, 0, 2, 0, 0, [])),
  (58, (42, 0, 0, 66, 0, 0, [])),
  (61, (8, 0, 0, 4, 0, 0, [])),
  (63, (40, 0, 0, 67, 0, 0, [])),
  (66, (7, 0, 0, 3, 0, 0, [])),
  (67, (64, 0, 0, 0, 0, 0, []))]
def e_X4_actForClaque : Ev := (t_X4_actForClaque, [(24, (1, 1, 0, 8, s_X8_allPay)), (59, (3, 0, 0, 0, s_X4_weepAt))], 1, 0, false, 0, fun _ => 0)
def s_X4_actForClaque : Sp := spc e_X4_actForClaque 7
theorem m_X4_actForClaque : monoE e_X4_actForClaque := monoE_of (cons_all (p_X8_allPay) (cons_all (p_X4_weepAt) nil_all))
theorem p_X4_actForClaque : mono s_X4_actForClaque := spc_mono m_X4_actForClaque _
theorem k_X4_actForClaque (l : Launch) : Con l y_X4_actForClaque prog_6_method_5_code 7 (Option.some Jvm.ClassFile.FieldType.int) { frames := 5, cells := 0, slots := 0, locals := 112 } 1 0 s_X4_actForClaque := con_of l e_X4_actForClaque y_X4_actForClaque prog_6_method_5_code 7 (Option.some Jvm.ClassFile.FieldType.int) _ (by decide +kernel) (cons_all (clV (k_X8_allPay l) f_X8_allPay ⟨rfl, rfl, Nat.le_of_ble_eq_true rfl, Nat.le_of_ble_eq_true rfl⟩ (mg 434 (by decide +kernel))) (cons_all (clS (k_X4_weepAt l) f_X4_weepAt ⟨rfl, rfl, Nat.le_of_ble_eq_true rfl, Nat.le_of_ble_eq_true rfl⟩ (mg 478 (by decide +kernel))) nil_all)) (Or.inl (by decide +kernel))
theorem f_X4_actForClaque : calS y_X4_actForClaque prog_6_method_5_code 7 (Option.some Jvm.ClassFile.FieldType.int) 3 := ⟨⟨mem_g (i := 477) (by decide +kernel) rfl, mg 30 (by decide +kernel)⟩, by decide +kernel, by decide +kernel, mg 476 (by decide +kernel)⟩
def y_X6_readLater : MethodName := ⟨"ActsPaid$Seats", "readLater", "(LActsPaid$Stage;)V"⟩
def t_X6_readLater : List (Nat × Ao) := [
  (0, (0, 0, 0, 0, 0, 0, [])),
  (1, (13, 0, 0, 2, 0, 0, [])),
  (2, (7, 0, 0, 2, 0, 0, [])),
  (3, (1, 8, 0, 0, 0, 0, [])),
  (5, (50, 0, 0, 71, 0, 0, [])),
  (8, (0, 0, 0, 0, 0, 0, [])),
  (9, (13, 0, 0, 3, 0, 0, [])),
  (10, (0, 0, 0, 0, 0, 0, [])),
  (11, (14, 0, 0, 4, 0, 0, [])),
  (13, (8, 0, 0, 4, 0, 0, [])),
  (15, (1, 8, 0, 0, 0, 0, [])),
  (17, (50, 0, 0, 56, 0, 0, [])),
  (20, (9, 0, 0, 1, 0, 0, [])),
  (21, (8, 0, 0, 4, 0, 0, [])),
  (23, (62, 0, 0, 40, 0, 0, [])),
  (26, (41, 0, 0, 50, 0, 0, [])),
  (29, (9, 0, 0, 1, 0, 0, [])),
  (30, (8, 0, 0, 4, 0, 0, [])),
  (32, (62, 0, 0, 44, 0, 0, [])),
  (35, (9, 0, 0, 1, 0, 0, [])),
  (36, (7, 0, 0, 2, 0, 0, [])),
  (37, (62, 0, 0, 44, 0, 0, [])),
  (40, (52, 0, 0, 50, 0, 0, [])),
  (43, (7, 0, 0, 3, 0, 0, [])),
  (44, (0, 1, 0, 0, 0, 0, [])),
  (45, (8, 0, 0, 4, 0, 0, [])),
  (47, (28, 0, 0, 0, 0, 0, [])),
  (48, (26, 0, 0, 0, 0, 0, [])),
  (49, (13, 0, 0, 3, 0, 0, [])),
  (50, (39, 1, 0, 4, 0, 0, [])),
  (53, (40, 0, 0, 13, 0, 0, [])),
  (56, (9, 0, 0, 0, 0, 0, [])),
  (57, (55, 0, 0, 15, 161, 181, [])),
  (60, (7, 0, 0, 2, 0, 0, [])),
  (61, (7, 0, 0, 3, 0, 0, [])),
  (62, (63, 0, 0, 48, 0, 0, [])),
  (65, (39, 1, 0, 2, 0, 0, [])),
  (68, (40, 0, 0, 2, 0, 0, [])),
  (71, (66, 0, 0, 0, 0, 0, []))]
def e_X6_readLater : Ev := (t_X6_readLater, [(40, (2, 1, 0, 8, s_X8_comes)), (44, (2, 1, 0, 8, s_X8_behind)), (48, (3, 0, 0, 0, s_X5_put))], 0, 0, false, 0, fun _ => 0)
def s_X6_readLater : Sp := spc e_X6_readLater 5
theorem m_X6_readLater : monoE e_X6_readLater := monoE_of (cons_all (p_X8_comes) (cons_all (p_X8_behind) (cons_all (p_X5_put) nil_all)))
theorem p_X6_readLater : mono s_X6_readLater := spc_mono m_X6_readLater _
theorem k_X6_readLater (l : Launch) : Con l y_X6_readLater prog_8_method_3_code 5 (Option.none : Option Jvm.ClassFile.FieldType) { frames := 3, cells := 0, slots := 0, locals := 69 } 0 0 s_X6_readLater := con_of l e_X6_readLater y_X6_readLater prog_8_method_3_code 5 (Option.none : Option Jvm.ClassFile.FieldType) _ (by decide +kernel) (cons_all (clV (k_X8_comes l) f_X8_comes ⟨rfl, rfl, Nat.le_of_ble_eq_true rfl, Nat.le_of_ble_eq_true rfl⟩ (mg 503 (by decide +kernel))) (cons_all (clV (k_X8_behind l) f_X8_behind ⟨rfl, rfl, Nat.le_of_ble_eq_true rfl, Nat.le_of_ble_eq_true rfl⟩ (mg 504 (by decide +kernel))) (cons_all (clS (k_X5_put l) f_X5_put ⟨rfl, rfl, Nat.le_of_ble_eq_true rfl, Nat.le_of_ble_eq_true rfl⟩ (mg 505 (by decide +kernel))) nil_all))) (Or.inl (by decide +kernel))
theorem f_X6_readLater : calV y_X6_readLater prog_8_method_3_code 5 (Option.none : Option Jvm.ClassFile.FieldType) 2 5 := ⟨⟨mem_g (i := 502) (by decide +kernel) rfl, mg 31 (by decide +kernel)⟩, by decide +kernel, by decide +kernel, by decide, mg 500 (by decide +kernel), mg 501 (by decide +kernel), _, rfl, rfl⟩
def y_X6_maySit : MethodName := ⟨"ActsPaid$Seats", "maySit", "(LActsPaid$Stage;III)Z"⟩
def t_X6_maySit : List (Nat × Ao) := [
  (0, (9, 0, 0, 0, 0, 0, [])),
  (1, (55, 0, 0, 75, 234, 119, [])),
  (4, (7, 0, 0, 3, 0, 0, [])),
  (5, (63, 0, 0, 66, 0, 0, [])),
  (8, (7, 0, 0, 1, 0, 0, [])),
  (9, (25, 0, 0, 0, 0, 0, [])),
  (10, (0, 1, 0, 0, 0, 0, [])),
  (11, (7, 0, 0, 2, 0, 0, [])),
  (12, (28, 0, 0, 0, 0, 0, [])),
  (13, (0, (-1), 0, 0, 0, 0, [])),
  (14, (27, 0, 0, 0, 0, 0, [])),
  (15, (25, 0, 0, 0, 0, 0, [])),
  (16, (14, 0, 0, 4, 0, 0, [])),
  (18, (9, 0, 0, 0, 0, 0, [])),
  (19, (7, 0, 0, 3, 0, 0, [])),
  (20, (62, 0, 0, 40, 0, 0, [])),
  (23, (41, 0, 0, 43, 0, 0, [])),
  (26, (7, 0, 0, 1, 0, 0, [])),
  (27, (7, 0, 0, 3, 0, 0, [])),
  (28, (29, 0, 0, 0, 0, 0, [])),
  (29, (0, 1, 0, 0, 0, 0, [])),
  (30, (25, 0, 0, 0, 0, 0, [])),
  (31, (42, 0, 0, 43, 0, 0, [])),
  (34, (8, 0, 0, 4, 0, 0, [])),
  (36, (42, 0, 0, 43, 0, 0, [])),
  (39, (0, 1, 0, 0, 0, 0, [])),
  (40, (40, 0, 0, 44, 0, 0, [])),
  (43, (0, 0, 0, 0, 0, 0, [])),
  (44, (64, 0, 0, 0, 0, 0, []))]
def e_X6_maySit : Ev := (t_X6_maySit, [(40, (2, 1, 0, 8, s_X8_comes)), (66, (2, 1, 0, 0, s_X5_at))], 4, 0, false, 0, fun _ => 0)
def s_X6_maySit : Sp := spc e_X6_maySit 5
theorem m_X6_maySit : monoE e_X6_maySit := monoE_of (cons_all (p_X8_comes) (cons_all (p_X5_at) nil_all))
theorem p_X6_maySit : mono s_X6_maySit := spc_mono m_X6_maySit _
theorem k_X6_maySit (l : Launch) : Con l y_X6_maySit prog_8_method_7_code 5 (Option.some Jvm.ClassFile.FieldType.boolean) { frames := 2, cells := 0, slots := 0, locals := 43 } 1 0 s_X6_maySit := con_of l e_X6_maySit y_X6_maySit prog_8_method_7_code 5 (Option.some Jvm.ClassFile.FieldType.boolean) _ (by decide +kernel) (cons_all (clV (k_X8_comes l) f_X8_comes ⟨rfl, rfl, Nat.le_of_ble_eq_true rfl, Nat.le_of_ble_eq_true rfl⟩ (mg 503 (by decide +kernel))) (cons_all (clS (k_X5_at l) f_X5_at ⟨rfl, rfl, Nat.le_of_ble_eq_true rfl, Nat.le_of_ble_eq_true rfl⟩ (mg 513 (by decide +kernel))) nil_all)) (Or.inl (by decide +kernel))
theorem f_X6_maySit : calS y_X6_maySit prog_8_method_7_code 5 (Option.some Jvm.ClassFile.FieldType.boolean) 4 := ⟨⟨mem_g (i := 512) (by decide +kernel) rfl, mg 31 (by decide +kernel)⟩, by decide +kernel, by decide +kernel, mg 511 (by decide +kernel)⟩
def y_X6_fewestBehind : MethodName := ⟨"ActsPaid$Seats", "fewestBehind", "(II)I"⟩
def t_X6_fewestBehind : List (Nat × Ao) := [
  (0, (9, 0, 0, 0, 0, 0, [])),
  (1, (55, 0, 0, 11, 160, 180, [])),
  (4, (7, 0, 0, 1, 0, 0, [])),
  (5, (1, 8, 0, 0, 0, 0, [])),
  (7, (21, 0, 0, 0, 0, 0, [])),
  (8, (7, 0, 0, 2, 0, 0, [])),
  (9, (19, 0, 0, 0, 0, 0, [])),
  (10, (63, 0, 0, 66, 0, 0, [])),
  (13, (64, 0, 0, 0, 0, 0, []))]
def e_X6_fewestBehind : Ev := (t_X6_fewestBehind, [(66, (2, 1, 0, 0, s_X5_at))], 1, 0, false, 0, fun _ => 0)
def s_X6_fewestBehind : Sp := spc e_X6_fewestBehind 3
theorem m_X6_fewestBehind : monoE e_X6_fewestBehind := monoE_of (cons_all (p_X5_at) nil_all)
theorem p_X6_fewestBehind : mono s_X6_fewestBehind := spc_mono m_X6_fewestBehind _
theorem k_X6_fewestBehind (l : Launch) : Con l y_X6_fewestBehind prog_8_method_5_code 3 (Option.some Jvm.ClassFile.FieldType.int) { frames := 1, cells := 0, slots := 0, locals := 21 } 1 0 s_X6_fewestBehind := con_of l e_X6_fewestBehind y_X6_fewestBehind prog_8_method_5_code 3 (Option.some Jvm.ClassFile.FieldType.int) _ (by decide +kernel) (cons_all (clS (k_X5_at l) f_X5_at ⟨rfl, rfl, Nat.le_of_ble_eq_true rfl, Nat.le_of_ble_eq_true rfl⟩ (mg 513 (by decide +kernel))) nil_all) (Or.inl (by decide +kernel))
theorem f_X6_fewestBehind : calV y_X6_fewestBehind prog_8_method_5_code 3 (Option.some Jvm.ClassFile.FieldType.int) 3 5 := ⟨⟨mem_g (i := 525) (by decide +kernel) rfl, mg 31 (by decide +kernel)⟩, by decide +kernel, by decide +kernel, by decide, mg 523 (by decide +kernel), mg 524 (by decide +kernel), _, rfl, rfl⟩
def y_X6_fewestWith : MethodName := ⟨"ActsPaid$Seats", "fewestWith", "(II)I"⟩
def t_X6_fewestWith : List (Nat × Ao) := [
  (0, (9, 0, 0, 0, 0, 0, [])),
  (1, (55, 0, 0, 15, 161, 181, [])),
  (4, (7, 0, 0, 2, 0, 0, [])),
  (5, (63, 0, 0, 66, 0, 0, [])),
  (8, (13, 0, 0, 3, 0, 0, [])),
  (9, (7, 0, 0, 3, 0, 0, [])),
  (10, (7, 0, 0, 1, 0, 0, [])),
  (11, (25, 0, 0, 0, 0, 0, [])),
  (12, (63, 0, 0, 70, 0, 0, [])),
  (15, (7, 0, 0, 3, 0, 0, [])),
  (16, (7, 0, 0, 1, 0, 0, [])),
  (17, (0, (-1), 0, 0, 0, 0, [])),
  (18, (27, 0, 0, 0, 0, 0, [])),
  (19, (25, 0, 0, 0, 0, 0, [])),
  (20, (63, 0, 0, 70, 0, 0, [])),
  (23, (70, 0, 0, 61, 0, 519, [])),
  (26, (14, 0, 0, 4, 0, 0, [])),
  (28, (8, 0, 0, 4, 0, 0, [])),
  (30, (9, 0, 0, 0, 0, 0, [])),
  (31, (7, 0, 0, 1, 0, 0, [])),
  (32, (0, 1, 0, 0, 0, 0, [])),
  (33, (7, 0, 0, 2, 0, 0, [])),
  (34, (28, 0, 0, 0, 0, 0, [])),
  (35, (26, 0, 0, 0, 0, 0, [])),
  (36, (7, 0, 0, 2, 0, 0, [])),
  (37, (62, 0, 0, 32, 0, 0, [])),
  (40, (19, 0, 0, 0, 0, 0, [])),
  (41, (64, 0, 0, 0, 0, 0, []))]
def e_X6_fewestWith : Ev := (t_X6_fewestWith, [(32, (3, 1, 0, 6, s_X6_fewestBehind)), (66, (2, 1, 0, 0, s_X5_at)), (70, (1, 1, 0, 0, s_J6_bitCount))], 1, 0, false, 0, fun _ => 0)
def s_X6_fewestWith : Sp := spc e_X6_fewestWith 5
theorem m_X6_fewestWith : monoE e_X6_fewestWith := monoE_of (cons_all (p_X6_fewestBehind) (cons_all (p_X5_at) (cons_all (p_J6_bitCount) nil_all)))
theorem p_X6_fewestWith : mono s_X6_fewestWith := spc_mono m_X6_fewestWith _
theorem k_X6_fewestWith (l : Launch) : Con l y_X6_fewestWith prog_8_method_6_code 5 (Option.some Jvm.ClassFile.FieldType.int) { frames := 2, cells := 0, slots := 0, locals := 43 } 1 0 s_X6_fewestWith := con_of l e_X6_fewestWith y_X6_fewestWith prog_8_method_6_code 5 (Option.some Jvm.ClassFile.FieldType.int) _ (by decide +kernel) (cons_all (clV (k_X6_fewestBehind l) f_X6_fewestBehind ⟨rfl, rfl, Nat.le_of_ble_eq_true rfl, Nat.le_of_ble_eq_true rfl⟩ (mg 522 (by decide +kernel))) (cons_all (clS (k_X5_at l) f_X5_at ⟨rfl, rfl, Nat.le_of_ble_eq_true rfl, Nat.le_of_ble_eq_true rfl⟩ (mg 513 (by decide +kernel))) (cons_all (clS (k_J6_bitCount l) f_J6_bitCount ⟨rfl, rfl, Nat.le_of_ble_eq_true rfl, Nat.le_of_ble_eq_true rfl⟩ (mg 518 (by decide +kernel))) nil_all))) (Or.inr (by decide))
theorem f_X6_fewestWith : calV y_X6_fewestWith prog_8_method_6_code 5 (Option.some Jvm.ClassFile.FieldType.int) 3 5 := ⟨⟨mem_g (i := 517) (by decide +kernel) rfl, mg 31 (by decide +kernel)⟩, by decide +kernel, by decide +kernel, by decide, mg 515 (by decide +kernel), mg 516 (by decide +kernel), _, rfl, rfl⟩
def y_X6_fillBehind : MethodName := ⟨"ActsPaid$Seats", "fillBehind", "(LActsPaid$Stage;I)V"⟩
def t_X6_fillBehind : List (Nat × Ao) := [
  (0, (0, 0, 0, 0, 0, 0, [])),
  (1, (13, 0, 0, 3, 0, 0, [])),
  (2, (7, 0, 0, 3, 0, 0, [])),
  (3, (1, 8, 0, 0, 0, 0, [])),
  (5, (50, 0, 0, 87, 0, 0, [])),
  (8, (7, 0, 0, 2, 0, 0, [])),
  (9, (9, 0, 0, 1, 0, 0, [])),
  (10, (55, 0, 0, 22, 229, 106, [])),
  (13, (48, 0, 0, 20, 0, 0, [])),
  (16, (0, 0, 0, 0, 0, 0, [])),
  (17, (40, 0, 0, 23, 0, 0, [])),
  (20, (2, 1000, 0, 0, 0, 0, [])),
  (23, (14, 0, 0, 4, 0, 0, [])),
  (25, (0, 0, 0, 0, 0, 0, [])),
  (26, (14, 0, 0, 5, 0, 0, [])),
  (28, (8, 0, 0, 5, 0, 0, [])),
  (30, (1, 8, 0, 0, 0, 0, [])),
  (32, (50, 0, 0, 66, 0, 0, [])),
  (35, (9, 0, 0, 1, 0, 0, [])),
  (36, (7, 0, 0, 2, 0, 0, [])),
  (37, (7, 0, 0, 3, 0, 0, [])),
  (38, (8, 0, 0, 5, 0, 0, [])),
  (40, (63, 0, 0, 54, 0, 0, [])),
  (43, (41, 0, 0, 60, 0, 0, [])),
  (46, (8, 0, 0, 4, 0, 0, [])),
  (48, (9, 0, 0, 0, 0, 0, [])),
  (49, (7, 0, 0, 2, 0, 0, [])),
  (50, (8, 0, 0, 5, 0, 0, [])),
  (52, (62, 0, 0, 58, 0, 0, [])),
  (55, (70, 0, 0, 61, 0, 519, [])),
  (58, (14, 0, 0, 4, 0, 0, [])),
  (60, (39, 1, 0, 5, 0, 0, [])),
  (63, (40, 0, 0, 28, 0, 0, [])),
  (66, (9, 0, 0, 0, 0, 0, [])),
  (67, (55, 0, 0, 11, 160, 180, [])),
  (70, (7, 0, 0, 2, 0, 0, [])),
  (71, (1, 8, 0, 0, 0, 0, [])),
  (73, (21, 0, 0, 0, 0, 0, [])),
  (74, (7, 0, 0, 3, 0, 0, [])),
  (75, (19, 0, 0, 0, 0, 0, [])),
  (76, (8, 0, 0, 4, 0, 0, [])),
  (78, (63, 0, 0, 48, 0, 0, [])),
  (81, (39, 1, 0, 3, 0, 0, [])),
  (84, (40, 0, 0, 2, 0, 0, [])),
  (87, (66, 0, 0, 0, 0, 0, []))]
def e_X6_fillBehind : Ev := (t_X6_fillBehind, [(48, (3, 0, 0, 0, s_X5_put)), (54, (4, 1, 0, 0, s_X6_maySit)), (58, (3, 1, 0, 6, s_X6_fewestWith))], 0, 0, false, 0, fun _ => 0)
def s_X6_fillBehind : Sp := spc e_X6_fillBehind 6
theorem m_X6_fillBehind : monoE e_X6_fillBehind := monoE_of (cons_all (p_X5_put) (cons_all (p_X6_maySit) (cons_all (p_X6_fewestWith) nil_all)))
theorem p_X6_fillBehind : mono s_X6_fillBehind := spc_mono m_X6_fillBehind _
theorem k_X6_fillBehind (l : Launch) : Con l y_X6_fillBehind prog_8_method_4_code 6 (Option.none : Option Jvm.ClassFile.FieldType) { frames := 3, cells := 0, slots := 0, locals := 67 } 0 0 s_X6_fillBehind := con_of l e_X6_fillBehind y_X6_fillBehind prog_8_method_4_code 6 (Option.none : Option Jvm.ClassFile.FieldType) _ (by decide +kernel) (cons_all (clS (k_X5_put l) f_X5_put ⟨rfl, rfl, Nat.le_of_ble_eq_true rfl, Nat.le_of_ble_eq_true rfl⟩ (mg 505 (by decide +kernel))) (cons_all (clS (k_X6_maySit l) f_X6_maySit ⟨rfl, rfl, Nat.le_of_ble_eq_true rfl, Nat.le_of_ble_eq_true rfl⟩ (mg 510 (by decide +kernel))) (cons_all (clV (k_X6_fewestWith l) f_X6_fewestWith ⟨rfl, rfl, Nat.le_of_ble_eq_true rfl, Nat.le_of_ble_eq_true rfl⟩ (mg 514 (by decide +kernel))) nil_all))) (Or.inr (by decide))
theorem f_X6_fillBehind : calV y_X6_fillBehind prog_8_method_4_code 6 (Option.none : Option Jvm.ClassFile.FieldType) 3 5 := ⟨⟨mem_g (i := 509) (by decide +kernel) rfl, mg 31 (by decide +kernel)⟩, by decide +kernel, by decide +kernel, by decide, mg 507 (by decide +kernel), mg 508 (by decide +kernel), _, rfl, rfl⟩
def y_X6_firstOfFewest : MethodName := ⟨"ActsPaid$Seats", "firstOfFewest", "(LActsPaid$Stage;II)I"⟩
def t_X6_firstOfFewest : List (Nat × Ao) := [
  (0, (9, 0, 0, 0, 0, 0, [])),
  (1, (7, 0, 0, 2, 0, 0, [])),
  (2, (7, 0, 0, 3, 0, 0, [])),
  (3, (62, 0, 0, 32, 0, 0, [])),
  (6, (14, 0, 0, 4, 0, 0, [])),
  (8, (0, 0, 0, 0, 0, 0, [])),
  (9, (14, 0, 0, 5, 0, 0, [])),
  (11, (8, 0, 0, 5, 0, 0, [])),
  (13, (1, 8, 0, 0, 0, 0, [])),
  (15, (50, 0, 0, 50, 0, 0, [])),
  (18, (9, 0, 0, 1, 0, 0, [])),
  (19, (7, 0, 0, 2, 0, 0, [])),
  (20, (7, 0, 0, 3, 0, 0, [])),
  (21, (8, 0, 0, 5, 0, 0, [])),
  (23, (63, 0, 0, 54, 0, 0, [])),
  (26, (41, 0, 0, 44, 0, 0, [])),
  (29, (9, 0, 0, 0, 0, 0, [])),
  (30, (7, 0, 0, 2, 0, 0, [])),
  (31, (8, 0, 0, 5, 0, 0, [])),
  (33, (62, 0, 0, 58, 0, 0, [])),
  (36, (8, 0, 0, 4, 0, 0, [])),
  (38, (48, 0, 0, 44, 0, 0, [])),
  (41, (8, 0, 0, 5, 0, 0, [])),
  (43, (64, 0, 0, 0, 0, 0, [])),
  (44, (39, 1, 0, 5, 0, 0, [])),
  (47, (40, 0, 0, 11, 0, 0, [])),
  (50, (7, 0, 0, 3, 0, 0, [])),
  (51, (64, 0, 0, 0, 0, 0, []))]
def e_X6_firstOfFewest : Ev := (t_X6_firstOfFewest, [(32, (3, 1, 0, 6, s_X6_fewestBehind)), (54, (4, 1, 0, 0, s_X6_maySit)), (58, (3, 1, 0, 6, s_X6_fewestWith))], 1, 0, false, 0, fun _ => 0)
def s_X6_firstOfFewest : Sp := spc e_X6_firstOfFewest 6
theorem m_X6_firstOfFewest : monoE e_X6_firstOfFewest := monoE_of (cons_all (p_X6_fewestBehind) (cons_all (p_X6_maySit) (cons_all (p_X6_fewestWith) nil_all)))
theorem p_X6_firstOfFewest : mono s_X6_firstOfFewest := spc_mono m_X6_firstOfFewest _
theorem k_X6_firstOfFewest (l : Launch) : Con l y_X6_firstOfFewest prog_8_method_9_code 6 (Option.some Jvm.ClassFile.FieldType.int) { frames := 3, cells := 0, slots := 0, locals := 67 } 1 0 s_X6_firstOfFewest := con_of l e_X6_firstOfFewest y_X6_firstOfFewest prog_8_method_9_code 6 (Option.some Jvm.ClassFile.FieldType.int) _ (by decide +kernel) (cons_all (clV (k_X6_fewestBehind l) f_X6_fewestBehind ⟨rfl, rfl, Nat.le_of_ble_eq_true rfl, Nat.le_of_ble_eq_true rfl⟩ (mg 522 (by decide +kernel))) (cons_all (clS (k_X6_maySit l) f_X6_maySit ⟨rfl, rfl, Nat.le_of_ble_eq_true rfl, Nat.le_of_ble_eq_true rfl⟩ (mg 510 (by decide +kernel))) (cons_all (clV (k_X6_fewestWith l) f_X6_fewestWith ⟨rfl, rfl, Nat.le_of_ble_eq_true rfl, Nat.le_of_ble_eq_true rfl⟩ (mg 514 (by decide +kernel))) nil_all))) (Or.inl (by decide +kernel))
theorem f_X6_firstOfFewest : calV y_X6_firstOfFewest prog_8_method_9_code 6 (Option.some Jvm.ClassFile.FieldType.int) 4 5 := ⟨⟨mem_g (i := 533) (by decide +kernel) rfl, mg 31 (by decide +kernel)⟩, by decide +kernel, by decide +kernel, by decide, mg 531 (by decide +kernel), mg 532 (by decide +kernel), _, rfl, rfl⟩
def y_X6_guestOnSeat : MethodName := ⟨"ActsPaid$Seats", "guestOnSeat", "(LActsPaid$Stage;I)I"⟩
def t_X6_guestOnSeat : List (Nat × Ao) := [
  (0, (0, 0, 0, 0, 0, 0, [])),
  (1, (13, 0, 0, 3, 0, 0, [])),
  (2, (0, 0, 0, 0, 0, 0, [])),
  (3, (14, 0, 0, 4, 0, 0, [])),
  (5, (0, 0, 0, 0, 0, 0, [])),
  (6, (14, 0, 0, 5, 0, 0, [])),
  (8, (8, 0, 0, 5, 0, 0, [])),
  (10, (9, 0, 0, 1, 0, 0, [])),
  (11, (55, 0, 0, 22, 229, 106, [])),
  (14, (63, 0, 0, 70, 0, 0, [])),
  (17, (50, 0, 0, 52, 0, 0, [])),
  (20, (9, 0, 0, 0, 0, 0, [])),
  (21, (9, 0, 0, 1, 0, 0, [])),
  (22, (7, 0, 0, 3, 0, 0, [])),
  (23, (8, 0, 0, 4, 0, 0, [])),
  (25, (62, 0, 0, 78, 0, 0, [])),
  (28, (14, 0, 0, 4, 0, 0, [])),
  (30, (7, 0, 0, 3, 0, 0, [])),
  (31, (0, 1, 0, 0, 0, 0, [])),
  (32, (8, 0, 0, 4, 0, 0, [])),
  (34, (28, 0, 0, 0, 0, 0, [])),
  (35, (26, 0, 0, 0, 0, 0, [])),
  (36, (13, 0, 0, 3, 0, 0, [])),
  (37, (8, 0, 0, 5, 0, 0, [])),
  (39, (7, 0, 0, 2, 0, 0, [])),
  (40, (48, 0, 0, 46, 0, 0, [])),
  (43, (8, 0, 0, 4, 0, 0, [])),
  (45, (64, 0, 0, 0, 0, 0, [])),
  (46, (39, 1, 0, 5, 0, 0, [])),
  (49, (40, 0, 0, 8, 0, 0, [])),
  (52, (1, (-6), 0, 0, 0, 0, [])),
  (54, (64, 0, 0, 0, 0, 0, []))]
def e_X6_guestOnSeat : Ev := (t_X6_guestOnSeat, [(70, (1, 1, 0, 0, s_J6_bitCount)), (78, (4, 1, 0, 6, s_X6_firstOfFewest))], 1, 0, false, 0, fun _ => 0)
def s_X6_guestOnSeat : Sp := spc e_X6_guestOnSeat 6
theorem m_X6_guestOnSeat : monoE e_X6_guestOnSeat := monoE_of (cons_all (p_J6_bitCount) (cons_all (p_X6_firstOfFewest) nil_all))
theorem p_X6_guestOnSeat : mono s_X6_guestOnSeat := spc_mono m_X6_guestOnSeat _
theorem k_X6_guestOnSeat (l : Launch) : Con l y_X6_guestOnSeat prog_8_method_8_code 6 (Option.some Jvm.ClassFile.FieldType.int) { frames := 4, cells := 0, slots := 0, locals := 92 } 1 0 s_X6_guestOnSeat := con_of l e_X6_guestOnSeat y_X6_guestOnSeat prog_8_method_8_code 6 (Option.some Jvm.ClassFile.FieldType.int) _ (by decide +kernel) (cons_all (clS (k_J6_bitCount l) f_J6_bitCount ⟨rfl, rfl, Nat.le_of_ble_eq_true rfl, Nat.le_of_ble_eq_true rfl⟩ (mg 518 (by decide +kernel))) (cons_all (clV (k_X6_firstOfFewest l) f_X6_firstOfFewest ⟨rfl, rfl, Nat.le_of_ble_eq_true rfl, Nat.le_of_ble_eq_true rfl⟩ (mg 530 (by decide +kernel))) nil_all)) (Or.inl (by decide +kernel))
theorem f_X6_guestOnSeat : calV y_X6_guestOnSeat prog_8_method_8_code 6 (Option.some Jvm.ClassFile.FieldType.int) 3 5 := ⟨⟨mem_g (i := 529) (by decide +kernel) rfl, mg 31 (by decide +kernel)⟩, by decide +kernel, by decide +kernel, by decide, mg 527 (by decide +kernel), mg 528 (by decide +kernel), _, rfl, rfl⟩
end
section
def y_X6_seated : MethodName := ⟨"ActsPaid$Seats", "seated", "(LActsPaid$Stage;I)I"⟩
def t_X6_seated : List (Nat × Ao) := [
  (0, (9, 0, 0, 0, 0, 0, [])),
  (1, (9, 0, 0, 1, 0, 0, [])),
  (2, (62, 0, 0, 18, 0, 0, [])),
  (5, (9, 0, 0, 1, 0, 0, [])),
  (6, (55, 0, 0, 22, 229, 106, [])),
  (9, (13, 0, 0, 3, 0, 0, [])),
  (10, (7, 0, 0, 3, 0, 0, [])),
  (11, (43, 0, 0, 37, 0, 0, [])),
  (14, (7, 0, 0, 3, 0, 0, [])),
  (15, (9, 0, 0, 1, 0, 0, [])),
  (16, (55, 0, 0, 22, 229, 106, [])),
  (19, (0, (-1), 0, 0, 0, 0, [])),
  (20, (27, 0, 0, 0, 0, 0, [])),
  (21, (25, 0, 0, 0, 0, 0, [])),
  (22, (42, 0, 0, 31, 0, 0, [])),
  (25, (9, 0, 0, 0, 0, 0, [])),
  (26, (9, 0, 0, 1, 0, 0, [])),
  (27, (7, 0, 0, 3, 0, 0, [])),
  (28, (62, 0, 0, 28, 0, 0, [])),
  (31, (39, (-1), 0, 3, 0, 0, [])),
  (34, (40, 0, 0, 10, 0, 0, [])),
  (37, (9, 0, 0, 0, 0, 0, [])),
  (38, (0, 0, 0, 0, 0, 0, [])),
  (39, (0, 0, 0, 0, 0, 0, [])),
  (40, (62, 0, 0, 32, 0, 0, [])),
  (43, (13, 0, 0, 3, 0, 0, [])),
  (44, (7, 0, 0, 3, 0, 0, [])),
  (45, (2, 1000, 0, 0, 0, 0, [])),
  (48, (49, 0, 0, 54, 0, 0, [])),
  (51, (1, (-6), 0, 0, 0, 0, [])),
  (53, (64, 0, 0, 0, 0, 0, [])),
  (54, (7, 0, 0, 2, 0, 0, [])),
  (55, (0, (-1), 0, 0, 0, 0, [])),
  (56, (48, 0, 0, 63, 0, 0, [])),
  (59, (7, 0, 0, 3, 0, 0, [])),
  (60, (40, 0, 0, 69, 0, 0, [])),
  (63, (9, 0, 0, 0, 0, 0, [])),
  (64, (9, 0, 0, 1, 0, 0, [])),
  (65, (7, 0, 0, 2, 0, 0, [])),
  (66, (62, 0, 0, 36, 0, 0, [])),
  (69, (64, 0, 0, 0, 0, 0, []))]
def e_X6_seated : Ev := (t_X6_seated, [(18, (2, 0, 0, 6, s_X6_readLater)), (28, (3, 0, 0, 6, s_X6_fillBehind)), (32, (3, 1, 0, 6, s_X6_fewestBehind)), (36, (3, 1, 0, 6, s_X6_guestOnSeat))], 1, 0, false, 0, fun _ => 0)
def s_X6_seated : Sp := spc e_X6_seated 4
theorem m_X6_seated : monoE e_X6_seated := monoE_of (cons_all (p_X6_readLater) (cons_all (p_X6_fillBehind) (cons_all (p_X6_fewestBehind) (cons_all (p_X6_guestOnSeat) nil_all))))
theorem p_X6_seated : mono s_X6_seated := spc_mono m_X6_seated _
theorem k_X6_seated (l : Launch) : Con l y_X6_seated prog_8_method_2_code 4 (Option.some Jvm.ClassFile.FieldType.int) { frames := 5, cells := 0, slots := 0, locals := 117 } 1 0 s_X6_seated := con_of l e_X6_seated y_X6_seated prog_8_method_2_code 4 (Option.some Jvm.ClassFile.FieldType.int) _ (by decide +kernel) (cons_all (clV (k_X6_readLater l) f_X6_readLater ⟨rfl, rfl, Nat.le_of_ble_eq_true rfl, Nat.le_of_ble_eq_true rfl⟩ (mg 499 (by decide +kernel))) (cons_all (clV (k_X6_fillBehind l) f_X6_fillBehind ⟨rfl, rfl, Nat.le_of_ble_eq_true rfl, Nat.le_of_ble_eq_true rfl⟩ (mg 506 (by decide +kernel))) (cons_all (clV (k_X6_fewestBehind l) f_X6_fewestBehind ⟨rfl, rfl, Nat.le_of_ble_eq_true rfl, Nat.le_of_ble_eq_true rfl⟩ (mg 522 (by decide +kernel))) (cons_all (clV (k_X6_guestOnSeat l) f_X6_guestOnSeat ⟨rfl, rfl, Nat.le_of_ble_eq_true rfl, Nat.le_of_ble_eq_true rfl⟩ (mg 526 (by decide +kernel))) nil_all)))) (Or.inl (by decide +kernel))
theorem f_X6_seated : calV y_X6_seated prog_8_method_2_code 4 (Option.some Jvm.ClassFile.FieldType.int) 3 5 := ⟨⟨mem_g (i := 498) (by decide +kernel) rfl, mg 31 (by decide +kernel)⟩, by decide +kernel, by decide +kernel, by decide, mg 496 (by decide +kernel), mg 497 (by decide +kernel), _, rfl, rfl⟩
def y_X7_copyFrom : MethodName := ⟨"ActsPaid$Sights", "copyFrom", "(LActsPaid$Sights;)V"⟩
def t_X7_copyFrom : List (Nat × Ao) := [
  (0, (9, 0, 0, 0, 0, 0, [])),
  (1, (9, 0, 0, 1, 0, 0, [])),
  (2, (55, 0, 0, 21, 192, 73, [])),
  (5, (56, 0, 0, 21, 192, 73, [])),
  (8, (9, 0, 0, 1, 0, 0, [])),
  (9, (55, 0, 0, 9, 193, 76, [])),
  (12, (9, 0, 0, 0, 0, 0, [])),
  (13, (55, 0, 0, 9, 193, 76, [])),
  (16, (63, 0, 0, 25, 0, 0, [])),
  (19, (9, 0, 0, 1, 0, 0, [])),
  (20, (55, 0, 0, 15, 194, 77, [])),
  (23, (9, 0, 0, 0, 0, 0, [])),
  (24, (55, 0, 0, 15, 194, 77, [])),
  (27, (63, 0, 0, 25, 0, 0, [])),
  (30, (9, 0, 0, 1, 0, 0, [])),
  (31, (55, 0, 0, 18, 195, 78, [])),
  (34, (9, 0, 0, 0, 0, 0, [])),
  (35, (55, 0, 0, 18, 195, 78, [])),
  (38, (63, 0, 0, 25, 0, 0, [])),
  (41, (66, 0, 0, 0, 0, 0, []))]
def e_X7_copyFrom : Ev := (t_X7_copyFrom, [(25, (2, 0, 0, 0, s_X5_copy))], 0, 0, false, 0, fun _ => 0)
def s_X7_copyFrom : Sp := spc e_X7_copyFrom 2
theorem m_X7_copyFrom : monoE e_X7_copyFrom := monoE_of (cons_all (p_X5_copy) nil_all)
theorem p_X7_copyFrom : mono s_X7_copyFrom := spc_mono m_X7_copyFrom _
theorem k_X7_copyFrom (l : Launch) : Con l y_X7_copyFrom prog_9_method_2_code 2 (Option.none : Option Jvm.ClassFile.FieldType) { frames := 1, cells := 0, slots := 0, locals := 22 } 0 0 s_X7_copyFrom := con_of l e_X7_copyFrom y_X7_copyFrom prog_9_method_2_code 2 (Option.none : Option Jvm.ClassFile.FieldType) _ (by decide +kernel) (cons_all (clS (k_X5_copy l) f_X5_copy ⟨rfl, rfl, Nat.le_of_ble_eq_true rfl, Nat.le_of_ble_eq_true rfl⟩ (mg 430 (by decide +kernel))) nil_all) (Or.inl (by decide +kernel))
theorem f_X7_copyFrom : calV y_X7_copyFrom prog_9_method_2_code 2 (Option.none : Option Jvm.ClassFile.FieldType) 2 6 := ⟨⟨mem_g (i := 429) (by decide +kernel) rfl, mg 28 (by decide +kernel)⟩, by decide +kernel, by decide +kernel, by decide, mg 427 (by decide +kernel), mg 428 (by decide +kernel), _, rfl, rfl⟩
def y_X7_add : MethodName := ⟨"ActsPaid$Sights", "add", "(III)Z"⟩
def t_X7_add : List (Nat × Ao) := [
  (0, (9, 0, 0, 0, 0, 0, [])),
  (1, (55, 0, 0, 21, 192, 73, [])),
  (4, (1, 6, 0, 0, 0, 0, [])),
  (6, (49, 0, 0, 11, 0, 0, [])),
  (9, (0, 0, 0, 0, 0, 0, [])),
  (10, (64, 0, 0, 0, 0, 0, [])),
  (11, (9, 0, 0, 0, 0, 0, [])),
  (12, (55, 0, 0, 9, 193, 76, [])),
  (15, (9, 0, 0, 0, 0, 0, [])),
  (16, (55, 0, 0, 21, 192, 73, [])),
  (19, (7, 0, 0, 1, 0, 0, [])),
  (20, (63, 0, 0, 31, 0, 0, [])),
  (23, (9, 0, 0, 0, 0, 0, [])),
  (24, (55, 0, 0, 15, 194, 77, [])),
  (27, (9, 0, 0, 0, 0, 0, [])),
  (28, (55, 0, 0, 21, 192, 73, [])),
  (31, (7, 0, 0, 2, 0, 0, [])),
  (32, (63, 0, 0, 31, 0, 0, [])),
  (35, (9, 0, 0, 0, 0, 0, [])),
  (36, (55, 0, 0, 18, 195, 78, [])),
  (39, (9, 0, 0, 0, 0, 0, [])),
  (40, (55, 0, 0, 21, 192, 73, [])),
  (43, (7, 0, 0, 3, 0, 0, [])),
  (44, (63, 0, 0, 31, 0, 0, [])),
  (47, (9, 0, 0, 0, 0, 0, [])),
  (48, (37, 0, 0, 0, 0, 0, [])),
  (49, (55, 0, 0, 21, 192, 73, [])),
  (52, (0, 1, 0, 0, 0, 0, [])),
  (53, (19, 0, 0, 0, 0, 0, [])),
  (54, (56, 0, 0, 21, 192, 73, [])),
  (57, (0, 1, 0, 0, 0, 0, [])),
  (58, (64, 0, 0, 0, 0, 0, []))]
def e_X7_add : Ev := (t_X7_add, [(31, (3, 0, 0, 0, s_X5_put))], 4, 0, false, 0, fun _ => 0)
def s_X7_add : Sp := spc e_X7_add 4
theorem m_X7_add : monoE e_X7_add := monoE_of (cons_all (p_X5_put) nil_all)
theorem p_X7_add : mono s_X7_add := spc_mono m_X7_add _
theorem k_X7_add (l : Launch) : Con l y_X7_add prog_9_method_3_code 4 (Option.some Jvm.ClassFile.FieldType.boolean) { frames := 1, cells := 0, slots := 0, locals := 22 } 1 0 s_X7_add := con_of l e_X7_add y_X7_add prog_9_method_3_code 4 (Option.some Jvm.ClassFile.FieldType.boolean) _ (by decide +kernel) (cons_all (clS (k_X5_put l) f_X5_put ⟨rfl, rfl, Nat.le_of_ble_eq_true rfl, Nat.le_of_ble_eq_true rfl⟩ (mg 582 (by decide +kernel))) nil_all) (Or.inl (by decide +kernel))
theorem f_X7_add : calV y_X7_add prog_9_method_3_code 4 (Option.some Jvm.ClassFile.FieldType.boolean) 4 6 := ⟨⟨mem_g (i := 581) (by decide +kernel) rfl, mg 28 (by decide +kernel)⟩, by decide +kernel, by decide +kernel, by decide, mg 579 (by decide +kernel), mg 580 (by decide +kernel), _, rfl, rfl⟩
def y_X7_allow : MethodName := ⟨"ActsPaid$Sights", "allow", "(LActsPaid$Stage;I)Z"⟩
def t_X7_allow : List (Nat × Ao) := [
  (0, (0, 0, 0, 0, 0, 0, [])),
  (1, (13, 0, 0, 3, 0, 0, [])),
  (2, (7, 0, 0, 3, 0, 0, [])),
  (3, (9, 0, 0, 0, 0, 0, [])),
  (4, (55, 0, 0, 21, 192, 73, [])),
  (7, (50, 0, 0, 58, 0, 0, [])),
  (10, (9, 0, 0, 0, 0, 0, [])),
  (11, (55, 0, 0, 9, 193, 76, [])),
  (14, (7, 0, 0, 3, 0, 0, [])),
  (15, (63, 0, 0, 35, 0, 0, [])),
  (18, (7, 0, 0, 2, 0, 0, [])),
  (19, (48, 0, 0, 52, 0, 0, [])),
  (22, (9, 0, 0, 1, 0, 0, [])),
  (23, (9, 0, 0, 0, 0, 0, [])),
  (24, (55, 0, 0, 18, 195, 78, [])),
  (27, (7, 0, 0, 3, 0, 0, [])),
  (28, (63, 0, 0, 35, 0, 0, [])),
  (31, (56, 0, 0, 39, 225, 95, [])),
  (34, (9, 0, 0, 1, 0, 0, [])),
  (35, (7, 0, 0, 2, 0, 0, [])),
  (36, (62, 0, 0, 44, 0, 0, [])),
  (39, (9, 0, 0, 0, 0, 0, [])),
  (40, (55, 0, 0, 15, 194, 77, [])),
  (43, (7, 0, 0, 3, 0, 0, [])),
  (44, (63, 0, 0, 35, 0, 0, [])),
  (47, (47, 0, 0, 52, 0, 0, [])),
  (50, (0, 0, 0, 0, 0, 0, [])),
  (51, (64, 0, 0, 0, 0, 0, [])),
  (52, (39, 1, 0, 3, 0, 0, [])),
  (55, (40, 0, 0, 2, 0, 0, [])),
  (58, (0, 1, 0, 0, 0, 0, [])),
  (59, (64, 0, 0, 0, 0, 0, []))]
def e_X7_allow : Ev := (t_X7_allow, [(35, (2, 1, 0, 0, s_X5_at)), (44, (2, 1, 0, 8, s_X8_behind))], 4, 0, false, 0, fun _ => 0)
def s_X7_allow : Sp := spc e_X7_allow 4
theorem m_X7_allow : monoE e_X7_allow := monoE_of (cons_all (p_X5_at) (cons_all (p_X8_behind) nil_all))
theorem p_X7_allow : mono s_X7_allow := spc_mono m_X7_allow _
theorem k_X7_allow (l : Launch) : Con l y_X7_allow prog_9_method_4_code 4 (Option.some Jvm.ClassFile.FieldType.boolean) { frames := 3, cells := 0, slots := 0, locals := 69 } 1 0 s_X7_allow := con_of l e_X7_allow y_X7_allow prog_9_method_4_code 4 (Option.some Jvm.ClassFile.FieldType.boolean) _ (by decide +kernel) (cons_all (clS (k_X5_at l) f_X5_at ⟨rfl, rfl, Nat.le_of_ble_eq_true rfl, Nat.le_of_ble_eq_true rfl⟩ (mg 599 (by decide +kernel))) (cons_all (clV (k_X8_behind l) f_X8_behind ⟨rfl, rfl, Nat.le_of_ble_eq_true rfl, Nat.le_of_ble_eq_true rfl⟩ (mg 600 (by decide +kernel))) nil_all)) (Or.inl (by decide +kernel))
theorem f_X7_allow : calV y_X7_allow prog_9_method_4_code 4 (Option.some Jvm.ClassFile.FieldType.boolean) 3 6 := ⟨⟨mem_g (i := 598) (by decide +kernel) rfl, mg 28 (by decide +kernel)⟩, by decide +kernel, by decide +kernel, by decide, mg 596 (by decide +kernel), mg 597 (by decide +kernel), _, rfl, rfl⟩
def y_X7_worthsThatFit : MethodName := ⟨"ActsPaid$Sights", "worthsThatFit", "(LActsPaid$Stage;III)I"⟩
def t_X7_worthsThatFit : List (Nat × Ao) := [
  (0, (0, 0, 0, 0, 0, 0, [])),
  (1, (14, 0, 0, 4, 0, 0, [])),
  (3, (1, (-6), 0, 0, 0, 0, [])),
  (5, (14, 0, 0, 5, 0, 0, [])),
  (7, (1, (-6), 0, 0, 0, 0, [])),
  (9, (14, 0, 0, 6, 0, 0, [])),
  (11, (1, (-10), 0, 0, 0, 0, [])),
  (13, (14, 0, 0, 7, 0, 0, [])),
  (15, (8, 0, 0, 7, 0, 0, [])),
  (17, (1, 25, 0, 0, 0, 0, [])),
  (19, (51, 0, 0, 72, 0, 0, [])),
  (22, (9, 0, 0, 0, 0, 0, [])),
  (23, (7, 0, 0, 1, 0, 0, [])),
  (24, (7, 0, 0, 2, 0, 0, [])),
  (25, (8, 0, 0, 7, 0, 0, [])),
  (27, (62, 0, 0, 48, 0, 0, [])),
  (30, (9, 0, 0, 0, 0, 0, [])),
  (31, (55, 0, 0, 52, 235, 121, [])),
  (34, (9, 0, 0, 0, 0, 0, [])),
  (35, (7, 0, 0, 1, 0, 0, [])),
  (36, (62, 0, 0, 56, 0, 0, [])),
  (39, (41, 0, 0, 66, 0, 0, [])),
  (42, (8, 0, 0, 7, 0, 0, [])),
  (44, (1, (-10), 0, 0, 0, 0, [])),
  (46, (20, 0, 0, 0, 0, 0, [])),
  (47, (14, 0, 0, 6, 0, 0, [])),
  (49, (8, 0, 0, 4, 0, 0, [])),
  (51, (42, 0, 0, 59, 0, 0, [])),
  (54, (8, 0, 0, 6, 0, 0, [])),
  (56, (40, 0, 0, 61, 0, 0, [])),
  (59, (8, 0, 0, 5, 0, 0, [])),
  (61, (14, 0, 0, 5, 0, 0, [])),
  (63, (39, 1, 0, 4, 0, 0, [])),
  (66, (39, 1, 0, 7, 0, 0, [])),
  (69, (40, 0, 0, 15, 0, 0, [])),
  (72, (7, 0, 0, 3, 0, 0, [])),
  (73, (69, 0, 0, 106, 0, 0, [(0, 100), (1, 103)])),
  (100, (8, 0, 0, 4, 0, 0, [])),
  (102, (64, 0, 0, 0, 0, 0, [])),
  (103, (8, 0, 0, 5, 0, 0, [])),
  (105, (64, 0, 0, 0, 0, 0, [])),
  (106, (8, 0, 0, 6, 0, 0, [])),
  (108, (64, 0, 0, 0, 0, 0, []))]
def e_X7_worthsThatFit : Ev := (t_X7_worthsThatFit, [(48, (4, 0, 0, 8, s_X8_putWorth)), (56, (3, 1, 0, 7, s_X7_allow))], 1, 0, false, 0, fun _ => 0)
def s_X7_worthsThatFit : Sp := spc e_X7_worthsThatFit 8
theorem m_X7_worthsThatFit : monoE e_X7_worthsThatFit := monoE_of (cons_all (p_X8_putWorth) (cons_all (p_X7_allow) nil_all))
theorem p_X7_worthsThatFit : mono s_X7_worthsThatFit := spc_mono m_X7_worthsThatFit _
theorem k_X7_worthsThatFit (l : Launch) : Con l y_X7_worthsThatFit prog_9_method_5_code 8 (Option.some Jvm.ClassFile.FieldType.int) { frames := 4, cells := 0, slots := 0, locals := 92 } 1 0 s_X7_worthsThatFit := con_of l e_X7_worthsThatFit y_X7_worthsThatFit prog_9_method_5_code 8 (Option.some Jvm.ClassFile.FieldType.int) _ (by decide +kernel) (cons_all (clV (k_X8_putWorth l) f_X8_putWorth ⟨rfl, rfl, Nat.le_of_ble_eq_true rfl, Nat.le_of_ble_eq_true rfl⟩ (mg 594 (by decide +kernel))) (cons_all (clV (k_X7_allow l) f_X7_allow ⟨rfl, rfl, Nat.le_of_ble_eq_true rfl, Nat.le_of_ble_eq_true rfl⟩ (mg 595 (by decide +kernel))) nil_all)) (Or.inl (by decide +kernel))
theorem f_X7_worthsThatFit : calS y_X7_worthsThatFit prog_9_method_5_code 8 (Option.some Jvm.ClassFile.FieldType.int) 4 := ⟨⟨mem_g (i := 593) (by decide +kernel) rfl, mg 28 (by decide +kernel)⟩, by decide +kernel, by decide +kernel, mg 592 (by decide +kernel)⟩
def y_X8_copyFrom : MethodName := ⟨"ActsPaid$Stage", "copyFrom", "(LActsPaid$Stage;)V"⟩
def t_X8_copyFrom : List (Nat × Ao) := [
  (0, (9, 0, 0, 0, 0, 0, [])),
  (1, (9, 0, 0, 1, 0, 0, [])),
  (2, (55, 0, 0, 9, 224, 88, [])),
  (5, (56, 0, 0, 9, 224, 88, [])),
  (8, (9, 0, 0, 0, 0, 0, [])),
  (9, (9, 0, 0, 1, 0, 0, [])),
  (10, (55, 0, 0, 15, 225, 92, [])),
  (13, (56, 0, 0, 15, 225, 92, [])),
  (16, (9, 0, 0, 0, 0, 0, [])),
  (17, (9, 0, 0, 1, 0, 0, [])),
  (18, (55, 0, 0, 18, 226, 97, [])),
  (21, (56, 0, 0, 18, 226, 97, [])),
  (24, (9, 0, 0, 0, 0, 0, [])),
  (25, (9, 0, 0, 1, 0, 0, [])),
  (26, (55, 0, 0, 47, 227, 101, [])),
  (29, (56, 0, 0, 47, 227, 101, [])),
  (32, (9, 0, 0, 0, 0, 0, [])),
  (33, (9, 0, 0, 1, 0, 0, [])),
  (34, (55, 0, 0, 21, 228, 103, [])),
  (37, (56, 0, 0, 21, 228, 103, [])),
  (40, (9, 0, 0, 0, 0, 0, [])),
  (41, (9, 0, 0, 1, 0, 0, [])),
  (42, (55, 0, 0, 50, 229, 107, [])),
  (45, (56, 0, 0, 50, 229, 107, [])),
  (48, (9, 0, 0, 1, 0, 0, [])),
  (49, (55, 0, 0, 24, 230, 110, [])),
  (52, (9, 0, 0, 0, 0, 0, [])),
  (53, (55, 0, 0, 24, 230, 110, [])),
  (56, (63, 0, 0, 53, 0, 0, [])),
  (59, (9, 0, 0, 1, 0, 0, [])),
  (60, (55, 0, 0, 28, 231, 113, [])),
  (63, (9, 0, 0, 0, 0, 0, [])),
  (64, (55, 0, 0, 28, 231, 113, [])),
  (67, (63, 0, 0, 53, 0, 0, [])),
  (70, (9, 0, 0, 1, 0, 0, [])),
  (71, (55, 0, 0, 31, 232, 114, [])),
  (74, (9, 0, 0, 0, 0, 0, [])),
  (75, (55, 0, 0, 31, 232, 114, [])),
  (78, (63, 0, 0, 53, 0, 0, [])),
  (81, (9, 0, 0, 1, 0, 0, [])),
  (82, (55, 0, 0, 34, 233, 117, [])),
  (85, (9, 0, 0, 0, 0, 0, [])),
  (86, (55, 0, 0, 34, 233, 117, [])),
  (89, (63, 0, 0, 53, 0, 0, [])),
  (92, (9, 0, 0, 1, 0, 0, [])),
  (93, (55, 0, 0, 37, 234, 118, [])),
  (96, (9, 0, 0, 0, 0, 0, [])),
  (97, (55, 0, 0, 37, 234, 118, [])),
  (100, (63, 0, 0, 53, 0, 0, [])),
  (103, (9, 0, 0, 0, 0, 0, [])),
  (104, (55, 0, 0, 43, 235, 120, [])),
  (107, (9, 0, 0, 1, 0, 0, [])),
  (108, (55, 0, 0, 43, 235, 120, [])),
  (111, (62, 0, 0, 59, 0, 0, [])),
  (114, (66, 0, 0, 0, 0, 0, []))]
def e_X8_copyFrom : Ev := (t_X8_copyFrom, [(53, (2, 0, 0, 0, s_X5_copy)), (59, (2, 0, 0, 7, s_X7_copyFrom))], 0, 0, false, 0, fun _ => 0)
def s_X8_copyFrom : Sp := spc e_X8_copyFrom 2
theorem m_X8_copyFrom : monoE e_X8_copyFrom := monoE_of (cons_all (p_X5_copy) (cons_all (p_X7_copyFrom) nil_all))
theorem p_X8_copyFrom : mono s_X8_copyFrom := spc_mono m_X8_copyFrom _
theorem k_X8_copyFrom (l : Launch) : Con l y_X8_copyFrom prog_10_method_2_code 2 (Option.none : Option Jvm.ClassFile.FieldType) { frames := 2, cells := 0, slots := 0, locals := 43 } 0 0 s_X8_copyFrom := con_of l e_X8_copyFrom y_X8_copyFrom prog_10_method_2_code 2 (Option.none : Option Jvm.ClassFile.FieldType) _ (by decide +kernel) (cons_all (clS (k_X5_copy l) f_X5_copy ⟨rfl, rfl, Nat.le_of_ble_eq_true rfl, Nat.le_of_ble_eq_true rfl⟩ (mg 423 (by decide +kernel))) (cons_all (clV (k_X7_copyFrom l) f_X7_copyFrom ⟨rfl, rfl, Nat.le_of_ble_eq_true rfl, Nat.le_of_ble_eq_true rfl⟩ (mg 426 (by decide +kernel))) nil_all)) (Or.inl (by decide +kernel))
theorem f_X8_copyFrom : calV y_X8_copyFrom prog_10_method_2_code 2 (Option.none : Option Jvm.ClassFile.FieldType) 2 7 := ⟨⟨mem_g (i := 422) (by decide +kernel) rfl, mg 27 (by decide +kernel)⟩, by decide +kernel, by decide +kernel, by decide, mg 420 (by decide +kernel), mg 421 (by decide +kernel), _, rfl, rfl⟩
def y_X8_openWith : MethodName := ⟨"ActsPaid$Stage", "openWith", "(I)V"⟩
def t_X8_openWith : List (Nat × Ao) := [
  (0, (9, 0, 0, 0, 0, 0, [])),
  (1, (7, 0, 0, 1, 0, 0, [])),
  (2, (56, 0, 0, 9, 224, 88, [])),
  (5, (9, 0, 0, 0, 0, 0, [])),
  (6, (0, 0, 0, 0, 0, 0, [])),
  (7, (56, 0, 0, 50, 229, 107, [])),
  (10, (9, 0, 0, 0, 0, 0, [])),
  (11, (55, 0, 0, 43, 235, 120, [])),
  (14, (0, 0, 0, 0, 0, 0, [])),
  (15, (56, 0, 0, 63, 192, 74, [])),
  (18, (9, 0, 0, 0, 0, 0, [])),
  (19, (62, 0, 0, 66, 0, 0, [])),
  (22, (0, 0, 0, 0, 0, 0, [])),
  (23, (13, 0, 0, 2, 0, 0, [])),
  (24, (7, 0, 0, 2, 0, 0, [])),
  (25, (1, 6, 0, 0, 0, 0, [])),
  (27, (50, 0, 0, 54, 0, 0, [])),
  (30, (9, 0, 0, 0, 0, 0, [])),
  (31, (55, 0, 0, 31, 232, 114, [])),
  (34, (7, 0, 0, 2, 0, 0, [])),
  (35, (0, 0, 0, 0, 0, 0, [])),
  (36, (63, 0, 0, 69, 0, 0, [])),
  (39, (9, 0, 0, 0, 0, 0, [])),
  (40, (55, 0, 0, 34, 233, 117, [])),
  (43, (7, 0, 0, 2, 0, 0, [])),
  (44, (0, 0, 0, 0, 0, 0, [])),
  (45, (63, 0, 0, 69, 0, 0, [])),
  (48, (39, 1, 0, 2, 0, 0, [])),
  (51, (40, 0, 0, 24, 0, 0, [])),
  (54, (0, 0, 0, 0, 0, 0, [])),
  (55, (13, 0, 0, 2, 0, 0, [])),
  (56, (7, 0, 0, 2, 0, 0, [])),
  (57, (1, 8, 0, 0, 0, 0, [])),
  (59, (50, 0, 0, 77, 0, 0, [])),
  (62, (9, 0, 0, 0, 0, 0, [])),
  (63, (55, 0, 0, 37, 234, 118, [])),
  (66, (7, 0, 0, 2, 0, 0, [])),
  (67, (0, 0, 0, 0, 0, 0, [])),
  (68, (63, 0, 0, 69, 0, 0, [])),
  (71, (39, 1, 0, 2, 0, 0, [])),
  (74, (40, 0, 0, 56, 0, 0, [])),
  (77, (66, 0, 0, 0, 0, 0, []))]
def e_X8_openWith : Ev := (t_X8_openWith, [(66, (1, 0, 0, 8, s_X8_orderByNumbers)), (69, (3, 0, 0, 0, s_X5_put))], 0, 0, false, 0, fun _ => 0)
def s_X8_openWith : Sp := spc e_X8_openWith 3
theorem m_X8_openWith : monoE e_X8_openWith := monoE_of (cons_all (p_X8_orderByNumbers) (cons_all (p_X5_put) nil_all))
theorem p_X8_openWith : mono s_X8_openWith := spc_mono m_X8_openWith _
theorem k_X8_openWith (l : Launch) : Con l y_X8_openWith prog_10_method_3_code 3 (Option.none : Option Jvm.ClassFile.FieldType) { frames := 2, cells := 0, slots := 0, locals := 43 } 0 0 s_X8_openWith := con_of l e_X8_openWith y_X8_openWith prog_10_method_3_code 3 (Option.none : Option Jvm.ClassFile.FieldType) _ (by decide +kernel) (cons_all (clV (k_X8_orderByNumbers l) f_X8_orderByNumbers ⟨rfl, rfl, Nat.le_of_ble_eq_true rfl, Nat.le_of_ble_eq_true rfl⟩ (mg 265 (by decide +kernel))) (cons_all (clS (k_X5_put l) f_X5_put ⟨rfl, rfl, Nat.le_of_ble_eq_true rfl, Nat.le_of_ble_eq_true rfl⟩ (mg 269 (by decide +kernel))) nil_all)) (Or.inl (by decide +kernel))
theorem f_X8_openWith : calV y_X8_openWith prog_10_method_3_code 3 (Option.none : Option Jvm.ClassFile.FieldType) 2 7 := ⟨⟨mem_g (i := 264) (by decide +kernel) rfl, mg 27 (by decide +kernel)⟩, by decide +kernel, by decide +kernel, by decide, mg 262 (by decide +kernel), mg 263 (by decide +kernel), _, rfl, rfl⟩
def y_X8_setting : MethodName := ⟨"ActsPaid$Stage", "setting", "(I)I"⟩
def t_X8_setting : List (Nat × Ao) := [
  (0, (7, 0, 0, 1, 0, 0, [])),
  (1, (68, 0, 0, 43, 0, 0, [(0, 28), (1, 33), (2, 38)])),
  (28, (9, 0, 0, 0, 0, 0, [])),
  (29, (55, 0, 0, 15, 225, 92, [])),
  (32, (64, 0, 0, 0, 0, 0, [])),
  (33, (9, 0, 0, 0, 0, 0, [])),
  (34, (55, 0, 0, 18, 226, 97, [])),
  (37, (64, 0, 0, 0, 0, 0, [])),
  (38, (9, 0, 0, 0, 0, 0, [])),
  (39, (55, 0, 0, 47, 227, 101, [])),
  (42, (64, 0, 0, 0, 0, 0, [])),
  (43, (9, 0, 0, 0, 0, 0, [])),
  (44, (55, 0, 0, 21, 228, 103, [])),
  (47, (64, 0, 0, 0, 0, 0, []))]
def e_X8_setting : Ev := (t_X8_setting, [], 1, 0, false, 0, fun _ => 0)
def s_X8_setting : Sp := spc e_X8_setting 2
theorem m_X8_setting : monoE e_X8_setting := monoE_of nil_all
theorem p_X8_setting : mono s_X8_setting := spc_mono m_X8_setting _
theorem k_X8_setting (l : Launch) : Con l y_X8_setting prog_10_method_5_code 2 (Option.some Jvm.ClassFile.FieldType.int) { frames := 0, cells := 0, slots := 0, locals := 0 } 1 0 s_X8_setting := con_of l e_X8_setting y_X8_setting prog_10_method_5_code 2 (Option.some Jvm.ClassFile.FieldType.int) _ (by decide +kernel) nil_all (Or.inl (by decide +kernel))
theorem f_X8_setting : calV y_X8_setting prog_10_method_5_code 2 (Option.some Jvm.ClassFile.FieldType.int) 2 7 := ⟨⟨mem_g (i := 282) (by decide +kernel) rfl, mg 27 (by decide +kernel)⟩, by decide +kernel, by decide +kernel, by decide, mg 280 (by decide +kernel), mg 281 (by decide +kernel), _, rfl, rfl⟩
def y_X8_putSetting : MethodName := ⟨"ActsPaid$Stage", "putSetting", "(II)V"⟩
def t_X8_putSetting : List (Nat × Ao) := [
  (0, (7, 0, 0, 1, 0, 0, [])),
  (1, (68, 0, 0, 52, 0, 0, [(0, 28), (1, 36), (2, 44)])),
  (28, (9, 0, 0, 0, 0, 0, [])),
  (29, (7, 0, 0, 2, 0, 0, [])),
  (30, (56, 0, 0, 15, 225, 92, [])),
  (33, (40, 0, 0, 57, 0, 0, [])),
  (36, (9, 0, 0, 0, 0, 0, [])),
  (37, (7, 0, 0, 2, 0, 0, [])),
  (38, (56, 0, 0, 18, 226, 97, [])),
  (41, (40, 0, 0, 57, 0, 0, [])),
  (44, (9, 0, 0, 0, 0, 0, [])),
  (45, (7, 0, 0, 2, 0, 0, [])),
  (46, (56, 0, 0, 47, 227, 101, [])),
  (49, (40, 0, 0, 57, 0, 0, [])),
  (52, (9, 0, 0, 0, 0, 0, [])),
  (53, (7, 0, 0, 2, 0, 0, [])),
  (54, (56, 0, 0, 21, 228, 103, [])),
  (57, (66, 0, 0, 0, 0, 0, []))]
def e_X8_putSetting : Ev := (t_X8_putSetting, [], 0, 0, false, 0, fun _ => 0)
def s_X8_putSetting : Sp := spc e_X8_putSetting 3
theorem m_X8_putSetting : monoE e_X8_putSetting := monoE_of nil_all
theorem p_X8_putSetting : mono s_X8_putSetting := spc_mono m_X8_putSetting _
theorem k_X8_putSetting (l : Launch) : Con l y_X8_putSetting prog_10_method_6_code 3 (Option.none : Option Jvm.ClassFile.FieldType) { frames := 0, cells := 0, slots := 0, locals := 0 } 0 0 s_X8_putSetting := con_of l e_X8_putSetting y_X8_putSetting prog_10_method_6_code 3 (Option.none : Option Jvm.ClassFile.FieldType) _ (by decide +kernel) nil_all (Or.inl (by decide +kernel))
theorem f_X8_putSetting : calV y_X8_putSetting prog_10_method_6_code 3 (Option.none : Option Jvm.ClassFile.FieldType) 3 7 := ⟨⟨mem_g (i := 286) (by decide +kernel) rfl, mg 27 (by decide +kernel)⟩, by decide +kernel, by decide +kernel, by decide, mg 284 (by decide +kernel), mg 285 (by decide +kernel), _, rfl, rfl⟩
def y_X8_hasAct : MethodName := ⟨"ActsPaid$Stage", "hasAct", "(I)Z"⟩
def t_X8_hasAct : List (Nat × Ao) := [
  (0, (7, 0, 0, 1, 0, 0, [])),
  (1, (0, 0, 0, 0, 0, 0, [])),
  (2, (9, 0, 0, 0, 0, 0, [])),
  (3, (55, 0, 0, 9, 224, 88, [])),
  (6, (0, 1, 0, 0, 0, 0, [])),
  (7, (20, 0, 0, 0, 0, 0, [])),
  (8, (63, 0, 0, 73, 0, 0, [])),
  (11, (64, 0, 0, 0, 0, 0, []))]
def e_X8_hasAct : Ev := (t_X8_hasAct, [(73, (3, 1, 0, 0, s_X9_within))], 4, 0, false, 0, fun _ => 0)
def s_X8_hasAct : Sp := spc e_X8_hasAct 2
theorem m_X8_hasAct : monoE e_X8_hasAct := monoE_of (cons_all (p_X9_within) nil_all)
theorem p_X8_hasAct : mono s_X8_hasAct := spc_mono m_X8_hasAct _
theorem k_X8_hasAct (l : Launch) : Con l y_X8_hasAct prog_10_method_8_code 2 (Option.some Jvm.ClassFile.FieldType.boolean) { frames := 1, cells := 0, slots := 0, locals := 22 } 1 0 s_X8_hasAct := con_of l e_X8_hasAct y_X8_hasAct prog_10_method_8_code 2 (Option.some Jvm.ClassFile.FieldType.boolean) _ (by decide +kernel) (cons_all (clN (k_X9_within l) f_X9_within ⟨rfl, rfl, Nat.le_of_ble_eq_true rfl, Nat.le_of_ble_eq_true rfl⟩ (by unfold nstL; decide +kernel)) nil_all) (Or.inl (by decide +kernel))
theorem f_X8_hasAct : calV y_X8_hasAct prog_10_method_8_code 2 (Option.some Jvm.ClassFile.FieldType.boolean) 2 7 := ⟨⟨mem_g (i := 360) (by decide +kernel) rfl, mg 27 (by decide +kernel)⟩, by decide +kernel, by decide +kernel, by decide, mg 358 (by decide +kernel), mg 359 (by decide +kernel), _, rfl, rfl⟩
def y_X8_worthOfFirst : MethodName := ⟨"ActsPaid$Stage", "worthOfFirst", "(II)I"⟩
def t_X8_worthOfFirst : List (Nat × Ao) := [
  (0, (0, 0, 0, 0, 0, 0, [])),
  (1, (13, 0, 0, 3, 0, 0, [])),
  (2, (0, 0, 0, 0, 0, 0, [])),
  (3, (14, 0, 0, 4, 0, 0, [])),
  (5, (8, 0, 0, 4, 0, 0, [])),
  (7, (7, 0, 0, 2, 0, 0, [])),
  (8, (50, 0, 0, 27, 0, 0, [])),
  (11, (7, 0, 0, 3, 0, 0, [])),
  (12, (9, 0, 0, 0, 0, 0, [])),
  (13, (7, 0, 0, 1, 0, 0, [])),
  (14, (8, 0, 0, 4, 0, 0, [])),
  (16, (62, 0, 0, 81, 0, 0, [])),
  (19, (19, 0, 0, 0, 0, 0, [])),
  (20, (13, 0, 0, 3, 0, 0, [])),
  (21, (39, 1, 0, 4, 0, 0, [])),
  (24, (40, 0, 0, 5, 0, 0, [])),
  (27, (7, 0, 0, 3, 0, 0, [])),
  (28, (64, 0, 0, 0, 0, 0, []))]
def e_X8_worthOfFirst : Ev := (t_X8_worthOfFirst, [(81, (3, 1, 0, 8, s_X8_worthPlayed))], 1, 0, false, 0, fun _ => 0)
def s_X8_worthOfFirst : Sp := spc e_X8_worthOfFirst 5
theorem m_X8_worthOfFirst : monoE e_X8_worthOfFirst := monoE_of (cons_all (p_X8_worthPlayed) nil_all)
theorem p_X8_worthOfFirst : mono s_X8_worthOfFirst := spc_mono m_X8_worthOfFirst _
theorem k_X8_worthOfFirst (l : Launch) : Con l y_X8_worthOfFirst prog_10_method_12_code 5 (Option.some Jvm.ClassFile.FieldType.int) { frames := 2, cells := 0, slots := 0, locals := 43 } 1 0 s_X8_worthOfFirst := con_of l e_X8_worthOfFirst y_X8_worthOfFirst prog_10_method_12_code 5 (Option.some Jvm.ClassFile.FieldType.int) _ (by decide +kernel) (cons_all (clV (k_X8_worthPlayed l) f_X8_worthPlayed ⟨rfl, rfl, Nat.le_of_ble_eq_true rfl, Nat.le_of_ble_eq_true rfl⟩ (mg 380 (by decide +kernel))) nil_all) (Or.inl (by decide +kernel))
theorem f_X8_worthOfFirst : calV y_X8_worthOfFirst prog_10_method_12_code 5 (Option.some Jvm.ClassFile.FieldType.int) 3 7 := ⟨⟨mem_g (i := 391) (by decide +kernel) rfl, mg 27 (by decide +kernel)⟩, by decide +kernel, by decide +kernel, by decide, mg 389 (by decide +kernel), mg 390 (by decide +kernel), _, rfl, rfl⟩
def y_X8_isAfter : MethodName := ⟨"ActsPaid$Stage", "isAfter", "(II)Z"⟩
def t_X8_isAfter : List (Nat × Ao) := [
  (0, (9, 0, 0, 0, 0, 0, [])),
  (1, (55, 0, 0, 34, 233, 117, [])),
  (4, (7, 0, 0, 2, 0, 0, [])),
  (5, (63, 0, 0, 77, 0, 0, [])),
  (8, (7, 0, 0, 1, 0, 0, [])),
  (9, (29, 0, 0, 0, 0, 0, [])),
  (10, (0, 1, 0, 0, 0, 0, [])),
  (11, (25, 0, 0, 0, 0, 0, [])),
  (12, (41, 0, 0, 19, 0, 0, [])),
  (15, (0, 1, 0, 0, 0, 0, [])),
  (16, (40, 0, 0, 20, 0, 0, [])),
  (19, (0, 0, 0, 0, 0, 0, [])),
  (20, (64, 0, 0, 0, 0, 0, []))]
def e_X8_isAfter : Ev := (t_X8_isAfter, [(77, (2, 1, 0, 0, s_X5_at))], 4, 0, false, 0, fun _ => 0)
def s_X8_isAfter : Sp := spc e_X8_isAfter 3
theorem m_X8_isAfter : monoE e_X8_isAfter := monoE_of (cons_all (p_X5_at) nil_all)
theorem p_X8_isAfter : mono s_X8_isAfter := spc_mono m_X8_isAfter _
theorem k_X8_isAfter (l : Launch) : Con l y_X8_isAfter prog_10_method_17_code 3 (Option.some Jvm.ClassFile.FieldType.boolean) { frames := 1, cells := 0, slots := 0, locals := 21 } 1 0 s_X8_isAfter := con_of l e_X8_isAfter y_X8_isAfter prog_10_method_17_code 3 (Option.some Jvm.ClassFile.FieldType.boolean) _ (by decide +kernel) (cons_all (clS (k_X5_at l) f_X5_at ⟨rfl, rfl, Nat.le_of_ble_eq_true rfl, Nat.le_of_ble_eq_true rfl⟩ (mg 365 (by decide +kernel))) nil_all) (Or.inl (by decide +kernel))
theorem f_X8_isAfter : calV y_X8_isAfter prog_10_method_17_code 3 (Option.some Jvm.ClassFile.FieldType.boolean) 3 7 := ⟨⟨mem_g (i := 442) (by decide +kernel) rfl, mg 27 (by decide +kernel)⟩, by decide +kernel, by decide +kernel, by decide, mg 440 (by decide +kernel), mg 441 (by decide +kernel), _, rfl, rfl⟩
def y_X8_putAfter : MethodName := ⟨"ActsPaid$Stage", "putAfter", "(II)V"⟩
def t_X8_putAfter : List (Nat × Ao) := [
  (0, (9, 0, 0, 0, 0, 0, [])),
  (1, (55, 0, 0, 34, 233, 117, [])),
  (4, (7, 0, 0, 1, 0, 0, [])),
  (5, (63, 0, 0, 77, 0, 0, [])),
  (8, (0, 1, 0, 0, 0, 0, [])),
  (9, (7, 0, 0, 1, 0, 0, [])),
  (10, (28, 0, 0, 0, 0, 0, [])),
  (11, (26, 0, 0, 0, 0, 0, [])),
  (12, (13, 0, 0, 3, 0, 0, [])),
  (13, (0, 0, 0, 0, 0, 0, [])),
  (14, (14, 0, 0, 4, 0, 0, [])),
  (16, (8, 0, 0, 4, 0, 0, [])),
  (18, (9, 0, 0, 0, 0, 0, [])),
  (19, (55, 0, 0, 9, 224, 88, [])),
  (22, (50, 0, 0, 67, 0, 0, [])),
  (25, (8, 0, 0, 4, 0, 0, [])),
  (27, (7, 0, 0, 2, 0, 0, [])),
  (28, (47, 0, 0, 41, 0, 0, [])),
  (31, (9, 0, 0, 0, 0, 0, [])),
  (32, (7, 0, 0, 2, 0, 0, [])),
  (33, (8, 0, 0, 4, 0, 0, [])),
  (35, (62, 0, 0, 99, 0, 0, [])),
  (38, (41, 0, 0, 61, 0, 0, [])),
  (41, (9, 0, 0, 0, 0, 0, [])),
  (42, (55, 0, 0, 34, 233, 117, [])),
  (45, (8, 0, 0, 4, 0, 0, [])),
  (47, (9, 0, 0, 0, 0, 0, [])),
  (48, (55, 0, 0, 34, 233, 117, [])),
  (51, (8, 0, 0, 4, 0, 0, [])),
  (53, (63, 0, 0, 77, 0, 0, [])),
  (56, (7, 0, 0, 3, 0, 0, [])),
  (57, (26, 0, 0, 0, 0, 0, [])),
  (58, (63, 0, 0, 69, 0, 0, [])),
  (61, (39, 1, 0, 4, 0, 0, [])),
  (64, (40, 0, 0, 16, 0, 0, [])),
  (67, (66, 0, 0, 0, 0, 0, []))]
def e_X8_putAfter : Ev := (t_X8_putAfter, [(69, (3, 0, 0, 0, s_X5_put)), (77, (2, 1, 0, 0, s_X5_at)), (99, (3, 1, 0, 8, s_X8_isAfter))], 0, 0, false, 0, fun _ => 0)
def s_X8_putAfter : Sp := spc e_X8_putAfter 5
theorem m_X8_putAfter : monoE e_X8_putAfter := monoE_of (cons_all (p_X5_put) (cons_all (p_X5_at) (cons_all (p_X8_isAfter) nil_all)))
theorem p_X8_putAfter : mono s_X8_putAfter := spc_mono m_X8_putAfter _
theorem k_X8_putAfter (l : Launch) : Con l y_X8_putAfter prog_10_method_18_code 5 (Option.none : Option Jvm.ClassFile.FieldType) { frames := 2, cells := 0, slots := 0, locals := 43 } 0 0 s_X8_putAfter := con_of l e_X8_putAfter y_X8_putAfter prog_10_method_18_code 5 (Option.none : Option Jvm.ClassFile.FieldType) _ (by decide +kernel) (cons_all (clS (k_X5_put l) f_X5_put ⟨rfl, rfl, Nat.le_of_ble_eq_true rfl, Nat.le_of_ble_eq_true rfl⟩ (mg 269 (by decide +kernel))) (cons_all (clS (k_X5_at l) f_X5_at ⟨rfl, rfl, Nat.le_of_ble_eq_true rfl, Nat.le_of_ble_eq_true rfl⟩ (mg 365 (by decide +kernel))) (cons_all (clV (k_X8_isAfter l) f_X8_isAfter ⟨rfl, rfl, Nat.le_of_ble_eq_true rfl, Nat.le_of_ble_eq_true rfl⟩ (mg 447 (by decide +kernel))) nil_all))) (Or.inl (by decide +kernel))
theorem f_X8_putAfter : calV y_X8_putAfter prog_10_method_18_code 5 (Option.none : Option Jvm.ClassFile.FieldType) 3 7 := ⟨⟨mem_g (i := 446) (by decide +kernel) rfl, mg 27 (by decide +kernel)⟩, by decide +kernel, by decide +kernel, by decide, mg 444 (by decide +kernel), mg 445 (by decide +kernel), _, rfl, rfl⟩
def y_X8_befriend : MethodName := ⟨"ActsPaid$Stage", "befriend", "(II)V"⟩
def t_X8_befriend : List (Nat × Ao) := [
  (0, (9, 0, 0, 0, 0, 0, [])),
  (1, (55, 0, 0, 37, 234, 118, [])),
  (4, (7, 0, 0, 1, 0, 0, [])),
  (5, (9, 0, 0, 0, 0, 0, [])),
  (6, (55, 0, 0, 37, 234, 118, [])),
  (9, (7, 0, 0, 1, 0, 0, [])),
  (10, (63, 0, 0, 77, 0, 0, [])),
  (13, (0, 1, 0, 0, 0, 0, [])),
  (14, (7, 0, 0, 2, 0, 0, [])),
  (15, (28, 0, 0, 0, 0, 0, [])),
  (16, (26, 0, 0, 0, 0, 0, [])),
  (17, (63, 0, 0, 69, 0, 0, [])),
  (20, (66, 0, 0, 0, 0, 0, []))]
def e_X8_befriend : Ev := (t_X8_befriend, [(69, (3, 0, 0, 0, s_X5_put)), (77, (2, 1, 0, 0, s_X5_at))], 0, 0, false, 0, fun _ => 0)
def s_X8_befriend : Sp := spc e_X8_befriend 3
theorem m_X8_befriend : monoE e_X8_befriend := monoE_of (cons_all (p_X5_put) (cons_all (p_X5_at) nil_all))
theorem p_X8_befriend : mono s_X8_befriend := spc_mono m_X8_befriend _
theorem k_X8_befriend (l : Launch) : Con l y_X8_befriend prog_10_method_20_code 3 (Option.none : Option Jvm.ClassFile.FieldType) { frames := 1, cells := 0, slots := 0, locals := 22 } 0 0 s_X8_befriend := con_of l e_X8_befriend y_X8_befriend prog_10_method_20_code 3 (Option.none : Option Jvm.ClassFile.FieldType) _ (by decide +kernel) (cons_all (clS (k_X5_put l) f_X5_put ⟨rfl, rfl, Nat.le_of_ble_eq_true rfl, Nat.le_of_ble_eq_true rfl⟩ (mg 269 (by decide +kernel))) (cons_all (clS (k_X5_at l) f_X5_at ⟨rfl, rfl, Nat.le_of_ble_eq_true rfl, Nat.le_of_ble_eq_true rfl⟩ (mg 365 (by decide +kernel))) nil_all)) (Or.inl (by decide +kernel))
theorem f_X8_befriend : calV y_X8_befriend prog_10_method_20_code 3 (Option.none : Option Jvm.ClassFile.FieldType) 3 7 := ⟨⟨mem_g (i := 490) (by decide +kernel) rfl, mg 27 (by decide +kernel)⟩, by decide +kernel, by decide +kernel, by decide, mg 488 (by decide +kernel), mg 489 (by decide +kernel), _, rfl, rfl⟩
def y_X9_acts : MethodName := ⟨"ActsPaid", "acts", "(I)I"⟩
def t_X9_acts : List (Nat × Ao) := [
  (0, (7, 0, 0, 1, 0, 0, [])),
  (1, (0, 1, 0, 0, 0, 0, [])),
  (2, (1, 6, 0, 0, 0, 0, [])),
  (4, (63, 0, 0, 64, 0, 0, [])),
  (7, (42, 0, 0, 13, 0, 0, [])),
  (10, (1, (-2), 0, 0, 0, 0, [])),
  (12, (64, 0, 0, 0, 0, 0, [])),
  (13, (9, 0, 0, 0, 0, 0, [])),
  (14, (55, 0, 0, 19, 257, 227, [])),
  (17, (55, 0, 0, 68, 224, 89, [])),
  (20, (13, 0, 0, 2, 0, 0, [])),
  (21, (9, 0, 0, 0, 0, 0, [])),
  (22, (55, 0, 0, 19, 257, 227, [])),
  (25, (7, 0, 0, 1, 0, 0, [])),
  (26, (62, 0, 0, 72, 0, 0, [])),
  (29, (7, 0, 0, 2, 0, 0, [])),
  (30, (64, 0, 0, 0, 0, 0, []))]
def e_X9_acts : Ev := (t_X9_acts, [(64, (3, 1, 0, 0, s_X9_within)), (72, (2, 0, 0, 8, s_X8_openWith))], 1, 0, false, 0, fun _ => 0)
def s_X9_acts : Sp := spc e_X9_acts 3
theorem m_X9_acts : monoE e_X9_acts := monoE_of (cons_all (p_X9_within) (cons_all (p_X8_openWith) nil_all))
theorem p_X9_acts : mono s_X9_acts := spc_mono m_X9_acts _
theorem k_X9_acts (l : Launch) : Con l y_X9_acts prog_1_method_2_code 3 (Option.some Jvm.ClassFile.FieldType.int) { frames := 3, cells := 0, slots := 0, locals := 65 } 1 0 s_X9_acts := con_of l e_X9_acts y_X9_acts prog_1_method_2_code 3 (Option.some Jvm.ClassFile.FieldType.int) _ (by decide +kernel) (cons_all (clS (k_X9_within l) f_X9_within ⟨rfl, rfl, Nat.le_of_ble_eq_true rfl, Nat.le_of_ble_eq_true rfl⟩ (mg 258 (by decide +kernel))) (cons_all (clV (k_X8_openWith l) f_X8_openWith ⟨rfl, rfl, Nat.le_of_ble_eq_true rfl, Nat.le_of_ble_eq_true rfl⟩ (mg 261 (by decide +kernel))) nil_all)) (Or.inl (by decide +kernel))
theorem f_X9_acts : calV y_X9_acts prog_1_method_2_code 3 (Option.some Jvm.ClassFile.FieldType.int) 2 8 := ⟨⟨mem_g (i := 257) (by decide +kernel) rfl, mg 25 (by decide +kernel)⟩, by decide +kernel, by decide +kernel, by decide, mg 255 (by decide +kernel), mg 256 (by decide +kernel), _, rfl, rfl⟩
def y_X9_settingLimit : MethodName := ⟨"ActsPaid", "settingLimit", "(I)I"⟩
def t_X9_settingLimit : List (Nat × Ao) := [
  (0, (7, 0, 0, 0, 0, 0, [])),
  (1, (69, 0, 0, 33, 0, 0, [(1, 28), (2, 31)])),
  (28, (1, 9, 0, 0, 0, 0, [])),
  (30, (64, 0, 0, 0, 0, 0, [])),
  (31, (0, 1, 0, 0, 0, 0, [])),
  (32, (64, 0, 0, 0, 0, 0, [])),
  (33, (1, 30, 0, 0, 0, 0, [])),
  (35, (64, 0, 0, 0, 0, 0, []))]
def e_X9_settingLimit : Ev := (t_X9_settingLimit, [], 1, 0, false, 0, fun _ => 0)
def s_X9_settingLimit : Sp := spc e_X9_settingLimit 1
theorem m_X9_settingLimit : monoE e_X9_settingLimit := monoE_of nil_all
theorem p_X9_settingLimit : mono s_X9_settingLimit := spc_mono m_X9_settingLimit _
theorem k_X9_settingLimit (l : Launch) : Con l y_X9_settingLimit prog_1_method_34_code 1 (Option.some Jvm.ClassFile.FieldType.int) { frames := 0, cells := 0, slots := 0, locals := 0 } 1 0 s_X9_settingLimit := con_of l e_X9_settingLimit y_X9_settingLimit prog_1_method_34_code 1 (Option.some Jvm.ClassFile.FieldType.int) _ (by decide +kernel) nil_all (Or.inl (by decide +kernel))
theorem f_X9_settingLimit : calS y_X9_settingLimit prog_1_method_34_code 1 (Option.some Jvm.ClassFile.FieldType.int) 1 := ⟨⟨mem_g (i := 278) (by decide +kernel) rfl, mg 25 (by decide +kernel)⟩, by decide +kernel, by decide +kernel, mg 277 (by decide +kernel)⟩
def y_X9_set : MethodName := ⟨"ActsPaid", "set", "(II)I"⟩
def t_X9_set : List (Nat × Ao) := [
  (0, (7, 0, 0, 1, 0, 0, [])),
  (1, (0, 0, 0, 0, 0, 0, [])),
  (2, (0, 3, 0, 0, 0, 0, [])),
  (3, (63, 0, 0, 64, 0, 0, [])),
  (6, (41, 0, 0, 21, 0, 0, [])),
  (9, (7, 0, 0, 2, 0, 0, [])),
  (10, (0, 0, 0, 0, 0, 0, [])),
  (11, (7, 0, 0, 1, 0, 0, [])),
  (12, (63, 0, 0, 76, 0, 0, [])),
  (15, (63, 0, 0, 64, 0, 0, [])),
  (18, (42, 0, 0, 24, 0, 0, [])),
  (21, (1, (-2), 0, 0, 0, 0, [])),
  (23, (64, 0, 0, 0, 0, 0, [])),
  (24, (9, 0, 0, 0, 0, 0, [])),
  (25, (55, 0, 0, 19, 257, 227, [])),
  (28, (7, 0, 0, 1, 0, 0, [])),
  (29, (62, 0, 0, 80, 0, 0, [])),
  (32, (13, 0, 0, 3, 0, 0, [])),
  (33, (9, 0, 0, 0, 0, 0, [])),
  (34, (55, 0, 0, 19, 257, 227, [])),
  (37, (7, 0, 0, 1, 0, 0, [])),
  (38, (7, 0, 0, 2, 0, 0, [])),
  (39, (62, 0, 0, 83, 0, 0, [])),
  (42, (7, 0, 0, 3, 0, 0, [])),
  (43, (64, 0, 0, 0, 0, 0, []))]
def e_X9_set : Ev := (t_X9_set, [(64, (3, 1, 0, 0, s_X9_within)), (76, (1, 1, 0, 0, s_X9_settingLimit)), (80, (2, 1, 0, 8, s_X8_setting)), (83, (3, 0, 0, 8, s_X8_putSetting))], 1, 0, false, 0, fun _ => 0)
def s_X9_set : Sp := spc e_X9_set 4
theorem m_X9_set : monoE e_X9_set := monoE_of (cons_all (p_X9_within) (cons_all (p_X9_settingLimit) (cons_all (p_X8_setting) (cons_all (p_X8_putSetting) nil_all))))
theorem p_X9_set : mono s_X9_set := spc_mono m_X9_set _
theorem k_X9_set (l : Launch) : Con l y_X9_set prog_1_method_3_code 4 (Option.some Jvm.ClassFile.FieldType.int) { frames := 1, cells := 0, slots := 0, locals := 22 } 1 0 s_X9_set := con_of l e_X9_set y_X9_set prog_1_method_3_code 4 (Option.some Jvm.ClassFile.FieldType.int) _ (by decide +kernel) (cons_all (clS (k_X9_within l) f_X9_within ⟨rfl, rfl, Nat.le_of_ble_eq_true rfl, Nat.le_of_ble_eq_true rfl⟩ (mg 258 (by decide +kernel))) (cons_all (clS (k_X9_settingLimit l) f_X9_settingLimit ⟨rfl, rfl, Nat.le_of_ble_eq_true rfl, Nat.le_of_ble_eq_true rfl⟩ (mg 276 (by decide +kernel))) (cons_all (clV (k_X8_setting l) f_X8_setting ⟨rfl, rfl, Nat.le_of_ble_eq_true rfl, Nat.le_of_ble_eq_true rfl⟩ (mg 279 (by decide +kernel))) (cons_all (clV (k_X8_putSetting l) f_X8_putSetting ⟨rfl, rfl, Nat.le_of_ble_eq_true rfl, Nat.le_of_ble_eq_true rfl⟩ (mg 283 (by decide +kernel))) nil_all)))) (Or.inl (by decide +kernel))
theorem f_X9_set : calV y_X9_set prog_1_method_3_code 4 (Option.some Jvm.ClassFile.FieldType.int) 3 8 := ⟨⟨mem_g (i := 275) (by decide +kernel) rfl, mg 25 (by decide +kernel)⟩, by decide +kernel, by decide +kernel, by decide, mg 273 (by decide +kernel), mg 274 (by decide +kernel), _, rfl, rfl⟩
def y_X9_say : MethodName := ⟨"ActsPaid", "say", "(I)I"⟩
def t_X9_say : List (Nat × Ao) := [
  (0, (7, 0, 0, 1, 0, 0, [])),
  (1, (1, 33, 0, 0, 0, 0, [])),
  (3, (1, 126, 0, 0, 0, 0, [])),
  (5, (63, 0, 0, 64, 0, 0, [])),
  (8, (42, 0, 0, 14, 0, 0, [])),
  (11, (1, (-2), 0, 0, 0, 0, [])),
  (13, (64, 0, 0, 0, 0, 0, [])),
  (14, (9, 0, 0, 0, 0, 0, [])),
  (15, (55, 0, 0, 10, 256, 226, [])),
  (18, (7, 0, 0, 1, 0, 0, [])),
  (19, (62, 0, 0, 87, 0, 0, [])),
  (22, (41, 0, 0, 35, 0, 0, [])),
  (25, (9, 0, 0, 0, 0, 0, [])),
  (26, (55, 0, 0, 10, 256, 226, [])),
  (29, (55, 0, 0, 91, 97, 54, [])),
  (32, (40, 0, 0, 37, 0, 0, [])),
  (35, (1, (-4), 0, 0, 0, 0, [])),
  (37, (64, 0, 0, 0, 0, 0, []))]
def e_X9_say : Ev := (t_X9_say, [(64, (3, 1, 0, 0, s_X9_within)), (87, (2, 1, 0, 4, s_X3_add))], 1, 0, false, 0, fun _ => 0)
def s_X9_say : Sp := spc e_X9_say 2
theorem m_X9_say : monoE e_X9_say := monoE_of (cons_all (p_X9_within) (cons_all (p_X3_add) nil_all))
theorem p_X9_say : mono s_X9_say := spc_mono m_X9_say _
theorem k_X9_say (l : Launch) : Con l y_X9_say prog_1_method_4_code 2 (Option.some Jvm.ClassFile.FieldType.int) { frames := 2, cells := 0, slots := 0, locals := 43 } 1 0 s_X9_say := con_of l e_X9_say y_X9_say prog_1_method_4_code 2 (Option.some Jvm.ClassFile.FieldType.int) _ (by decide +kernel) (cons_all (clS (k_X9_within l) f_X9_within ⟨rfl, rfl, Nat.le_of_ble_eq_true rfl, Nat.le_of_ble_eq_true rfl⟩ (mg 258 (by decide +kernel))) (cons_all (clV (k_X3_add l) f_X3_add ⟨rfl, rfl, Nat.le_of_ble_eq_true rfl, Nat.le_of_ble_eq_true rfl⟩ (mg 291 (by decide +kernel))) nil_all)) (Or.inl (by decide +kernel))
theorem f_X9_say : calV y_X9_say prog_1_method_4_code 2 (Option.some Jvm.ClassFile.FieldType.int) 2 8 := ⟨⟨mem_g (i := 290) (by decide +kernel) rfl, mg 25 (by decide +kernel)⟩, by decide +kernel, by decide +kernel, by decide, mg 288 (by decide +kernel), mg 289 (by decide +kernel), _, rfl, rfl⟩
def y_X9_wipe : MethodName := ⟨"ActsPaid", "wipe", "()I"⟩
def t_X9_wipe : List (Nat × Ao) := [
  (0, (9, 0, 0, 0, 0, 0, [])),
  (1, (55, 0, 0, 10, 256, 226, [])),
  (4, (55, 0, 0, 91, 97, 54, [])),
  (7, (13, 0, 0, 1, 0, 0, [])),
  (8, (9, 0, 0, 0, 0, 0, [])),
  (9, (55, 0, 0, 10, 256, 226, [])),
  (12, (0, 0, 0, 0, 0, 0, [])),
  (13, (56, 0, 0, 91, 97, 54, [])),
  (16, (7, 0, 0, 1, 0, 0, [])),
  (17, (64, 0, 0, 0, 0, 0, []))]
def e_X9_wipe : Ev := (t_X9_wipe, [], 1, 0, false, 0, fun _ => 0)
def s_X9_wipe : Sp := spc e_X9_wipe 2
theorem m_X9_wipe : monoE e_X9_wipe := monoE_of nil_all
theorem p_X9_wipe : mono s_X9_wipe := spc_mono m_X9_wipe _
theorem k_X9_wipe (l : Launch) : Con l y_X9_wipe prog_1_method_5_code 2 (Option.some Jvm.ClassFile.FieldType.int) { frames := 0, cells := 0, slots := 0, locals := 0 } 1 0 s_X9_wipe := con_of l e_X9_wipe y_X9_wipe prog_1_method_5_code 2 (Option.some Jvm.ClassFile.FieldType.int) _ (by decide +kernel) nil_all (Or.inl (by decide +kernel))
theorem f_X9_wipe : calV y_X9_wipe prog_1_method_5_code 2 (Option.some Jvm.ClassFile.FieldType.int) 1 8 := ⟨⟨mem_g (i := 299) (by decide +kernel) rfl, mg 25 (by decide +kernel)⟩, by decide +kernel, by decide +kernel, by decide, mg 297 (by decide +kernel), mg 298 (by decide +kernel), _, rfl, rfl⟩
def y_X9_fault : MethodName := ⟨"ActsPaid", "fault", "(I)I"⟩
def t_X9_fault : List (Nat × Ao) := [
  (0, (7, 0, 0, 1, 0, 0, [])),
  (1, (0, 0, 0, 0, 0, 0, [])),
  (2, (0, 1, 0, 0, 0, 0, [])),
  (3, (63, 0, 0, 64, 0, 0, [])),
  (6, (42, 0, 0, 12, 0, 0, [])),
  (9, (1, (-2), 0, 0, 0, 0, [])),
  (11, (64, 0, 0, 0, 0, 0, [])),
  (12, (7, 0, 0, 1, 0, 0, [])),
  (13, (42, 0, 0, 33, 0, 0, [])),
  (16, (9, 0, 0, 0, 0, 0, [])),
  (17, (55, 0, 0, 10, 256, 226, [])),
  (20, (9, 0, 0, 0, 0, 0, [])),
  (21, (55, 0, 0, 19, 257, 227, [])),
  (24, (55, 0, 0, 68, 224, 89, [])),
  (27, (62, 0, 0, 94, 0, 0, [])),
  (30, (40, 0, 0, 47, 0, 0, [])),
  (33, (9, 0, 0, 0, 0, 0, [])),
  (34, (55, 0, 0, 10, 256, 226, [])),
  (37, (9, 0, 0, 0, 0, 0, [])),
  (38, (55, 0, 0, 19, 257, 227, [])),
  (41, (55, 0, 0, 68, 224, 89, [])),
  (44, (62, 0, 0, 97, 0, 0, [])),
  (47, (64, 0, 0, 0, 0, 0, []))]
def e_X9_fault : Ev := (t_X9_fault, [(64, (3, 1, 0, 0, s_X9_within)), (94, (2, 1, 0, 4, s_X3_guestFault)), (97, (2, 1, 0, 4, s_X3_orderFault))], 1, 0, false, 0, fun _ => 0)
def s_X9_fault : Sp := spc e_X9_fault 2
theorem m_X9_fault : monoE e_X9_fault := monoE_of (cons_all (p_X9_within) (cons_all (p_X3_guestFault) (cons_all (p_X3_orderFault) nil_all)))
theorem p_X9_fault : mono s_X9_fault := spc_mono m_X9_fault _
theorem k_X9_fault (l : Launch) : Con l y_X9_fault prog_1_method_6_code 2 (Option.some Jvm.ClassFile.FieldType.int) { frames := 3, cells := 0, slots := 0, locals := 66 } 1 0 s_X9_fault := con_of l e_X9_fault y_X9_fault prog_1_method_6_code 2 (Option.some Jvm.ClassFile.FieldType.int) _ (by decide +kernel) (cons_all (clS (k_X9_within l) f_X9_within ⟨rfl, rfl, Nat.le_of_ble_eq_true rfl, Nat.le_of_ble_eq_true rfl⟩ (mg 258 (by decide +kernel))) (cons_all (clV (k_X3_guestFault l) f_X3_guestFault ⟨rfl, rfl, Nat.le_of_ble_eq_true rfl, Nat.le_of_ble_eq_true rfl⟩ (mg 304 (by decide +kernel))) (cons_all (clV (k_X3_orderFault l) f_X3_orderFault ⟨rfl, rfl, Nat.le_of_ble_eq_true rfl, Nat.le_of_ble_eq_true rfl⟩ (mg 319 (by decide +kernel))) nil_all))) (Or.inl (by decide +kernel))
theorem f_X9_fault : calV y_X9_fault prog_1_method_6_code 2 (Option.some Jvm.ClassFile.FieldType.int) 2 8 := ⟨⟨mem_g (i := 303) (by decide +kernel) rfl, mg 25 (by decide +kernel)⟩, by decide +kernel, by decide +kernel, by decide, mg 301 (by decide +kernel), mg 302 (by decide +kernel), _, rfl, rfl⟩
def y_X9_guest : MethodName := ⟨"ActsPaid", "guest", "(I)I"⟩
def t_X9_guest : List (Nat × Ao) := [
  (0, (7, 0, 0, 1, 0, 0, [])),
  (1, (0, 0, 0, 0, 0, 0, [])),
  (2, (1, 7, 0, 0, 0, 0, [])),
  (4, (63, 0, 0, 64, 0, 0, [])),
  (7, (42, 0, 0, 12, 0, 0, [])),
  (10, (0, (-1), 0, 0, 0, 0, [])),
  (11, (64, 0, 0, 0, 0, 0, [])),
  (12, (9, 0, 0, 0, 0, 0, [])),
  (13, (55, 0, 0, 10, 256, 226, [])),
  (16, (9, 0, 0, 0, 0, 0, [])),
  (17, (55, 0, 0, 19, 257, 227, [])),
  (20, (55, 0, 0, 68, 224, 89, [])),
  (23, (62, 0, 0, 94, 0, 0, [])),
  (26, (1, (-6), 0, 0, 0, 0, [])),
  (28, (47, 0, 0, 34, 0, 0, [])),
  (31, (1, (-5), 0, 0, 0, 0, [])),
  (33, (64, 0, 0, 0, 0, 0, [])),
  (34, (0, 0, 0, 0, 0, 0, [])),
  (35, (13, 0, 0, 2, 0, 0, [])),
  (36, (7, 0, 0, 2, 0, 0, [])),
  (37, (9, 0, 0, 0, 0, 0, [])),
  (38, (55, 0, 0, 19, 257, 227, [])),
  (41, (55, 0, 0, 68, 224, 89, [])),
  (44, (50, 0, 0, 73, 0, 0, [])),
  (47, (9, 0, 0, 0, 0, 0, [])),
  (48, (55, 0, 0, 19, 257, 227, [])),
  (51, (7, 0, 0, 1, 0, 0, [])),
  (52, (7, 0, 0, 2, 0, 0, [])),
  (53, (9, 0, 0, 0, 0, 0, [])),
  (54, (55, 0, 0, 10, 256, 226, [])),
  (57, (7, 0, 0, 2, 0, 0, [])),
  (58, (62, 0, 0, 100, 0, 0, [])),
  (61, (63, 0, 0, 103, 0, 0, [])),
  (64, (62, 0, 0, 106, 0, 0, [])),
  (67, (39, 1, 0, 2, 0, 0, [])),
  (70, (40, 0, 0, 36, 0, 0, [])),
  (73, (9, 0, 0, 0, 0, 0, [])),
  (74, (55, 0, 0, 19, 257, 227, [])),
  (77, (37, 0, 0, 0, 0, 0, [])),
  (78, (55, 0, 0, 110, 229, 109, [])),
  (81, (0, 1, 0, 0, 0, 0, [])),
  (82, (7, 0, 0, 1, 0, 0, [])),
  (83, (28, 0, 0, 0, 0, 0, [])),
  (84, (26, 0, 0, 0, 0, 0, [])),
  (85, (56, 0, 0, 110, 229, 109, [])),
  (88, (9, 0, 0, 0, 0, 0, [])),
  (89, (55, 0, 0, 10, 256, 226, [])),
  (92, (0, 0, 0, 0, 0, 0, [])),
  (93, (56, 0, 0, 91, 97, 54, [])),
  (96, (9, 0, 0, 0, 0, 0, [])),
  (97, (55, 0, 0, 19, 257, 227, [])),
  (100, (55, 0, 0, 110, 229, 109, [])),
  (103, (63, 0, 0, 113, 0, 0, [])),
  (106, (64, 0, 0, 0, 0, 0, []))]
def e_X9_guest : Ev := (t_X9_guest, [(64, (3, 1, 0, 0, s_X9_within)), (94, (2, 1, 0, 4, s_X3_guestFault)), (100, (2, 1, 0, 4, s_X3_sign)), (103, (1, 1, 0, 0, s_X3_worthTold)), (106, (4, 0, 0, 8, s_X8_putWorth)), (113, (1, 1, 0, 0, s_J6_bitCount))], 1, 0, false, 0, fun _ => 0)
def s_X9_guest : Sp := spc e_X9_guest 3
theorem m_X9_guest : monoE e_X9_guest := monoE_of (cons_all (p_X9_within) (cons_all (p_X3_guestFault) (cons_all (p_X3_sign) (cons_all (p_X3_worthTold) (cons_all (p_X8_putWorth) (cons_all (p_J6_bitCount) nil_all))))))
theorem p_X9_guest : mono s_X9_guest := spc_mono m_X9_guest _
theorem k_X9_guest (l : Launch) : Con l y_X9_guest prog_1_method_7_code 3 (Option.some Jvm.ClassFile.FieldType.int) { frames := 3, cells := 0, slots := 0, locals := 64 } 1 0 s_X9_guest := con_of l e_X9_guest y_X9_guest prog_1_method_7_code 3 (Option.some Jvm.ClassFile.FieldType.int) _ (by decide +kernel) (cons_all (clS (k_X9_within l) f_X9_within ⟨rfl, rfl, Nat.le_of_ble_eq_true rfl, Nat.le_of_ble_eq_true rfl⟩ (mg 258 (by decide +kernel))) (cons_all (clV (k_X3_guestFault l) f_X3_guestFault ⟨rfl, rfl, Nat.le_of_ble_eq_true rfl, Nat.le_of_ble_eq_true rfl⟩ (mg 304 (by decide +kernel))) (cons_all (clV (k_X3_sign l) f_X3_sign ⟨rfl, rfl, Nat.le_of_ble_eq_true rfl, Nat.le_of_ble_eq_true rfl⟩ (mg 330 (by decide +kernel))) (cons_all (clS (k_X3_worthTold l) f_X3_worthTold ⟨rfl, rfl, Nat.le_of_ble_eq_true rfl, Nat.le_of_ble_eq_true rfl⟩ (mg 331 (by decide +kernel))) (cons_all (clV (k_X8_putWorth l) f_X8_putWorth ⟨rfl, rfl, Nat.le_of_ble_eq_true rfl, Nat.le_of_ble_eq_true rfl⟩ (mg 334 (by decide +kernel))) (cons_all (clS (k_J6_bitCount l) f_J6_bitCount ⟨rfl, rfl, Nat.le_of_ble_eq_true rfl, Nat.le_of_ble_eq_true rfl⟩ (mg 338 (by decide +kernel))) nil_all)))))) (Or.inl (by decide +kernel))
theorem f_X9_guest : calV y_X9_guest prog_1_method_7_code 3 (Option.some Jvm.ClassFile.FieldType.int) 2 8 := ⟨⟨mem_g (i := 329) (by decide +kernel) rfl, mg 25 (by decide +kernel)⟩, by decide +kernel, by decide +kernel, by decide, mg 327 (by decide +kernel), mg 328 (by decide +kernel), _, rfl, rfl⟩
def y_X9_leave : MethodName := ⟨"ActsPaid", "leave", "(I)I"⟩
def t_X9_leave : List (Nat × Ao) := [
  (0, (9, 0, 0, 0, 0, 0, [])),
  (1, (55, 0, 0, 19, 257, 227, [])),
  (4, (7, 0, 0, 1, 0, 0, [])),
  (5, (62, 0, 0, 118, 0, 0, [])),
  (8, (42, 0, 0, 13, 0, 0, [])),
  (11, (0, (-1), 0, 0, 0, 0, [])),
  (12, (64, 0, 0, 0, 0, 0, [])),
  (13, (9, 0, 0, 0, 0, 0, [])),
  (14, (55, 0, 0, 19, 257, 227, [])),
  (17, (37, 0, 0, 0, 0, 0, [])),
  (18, (55, 0, 0, 110, 229, 109, [])),
  (21, (0, 1, 0, 0, 0, 0, [])),
  (22, (7, 0, 0, 1, 0, 0, [])),
  (23, (28, 0, 0, 0, 0, 0, [])),
  (24, (0, (-1), 0, 0, 0, 0, [])),
  (25, (27, 0, 0, 0, 0, 0, [])),
  (26, (25, 0, 0, 0, 0, 0, [])),
  (27, (56, 0, 0, 110, 229, 109, [])),
  (30, (9, 0, 0, 0, 0, 0, [])),
  (31, (55, 0, 0, 19, 257, 227, [])),
  (34, (55, 0, 0, 110, 229, 109, [])),
  (37, (63, 0, 0, 113, 0, 0, [])),
  (40, (64, 0, 0, 0, 0, 0, []))]
def e_X9_leave : Ev := (t_X9_leave, [(113, (1, 1, 0, 0, s_J6_bitCount)), (118, (2, 1, 0, 8, s_X8_comes))], 1, 0, false, 0, fun _ => 0)
def s_X9_leave : Sp := spc e_X9_leave 2
theorem m_X9_leave : monoE e_X9_leave := monoE_of (cons_all (p_J6_bitCount) (cons_all (p_X8_comes) nil_all))
theorem p_X9_leave : mono s_X9_leave := spc_mono m_X9_leave _
theorem k_X9_leave (l : Launch) : Con l y_X9_leave prog_1_method_8_code 2 (Option.some Jvm.ClassFile.FieldType.int) { frames := 2, cells := 0, slots := 0, locals := 43 } 1 0 s_X9_leave := con_of l e_X9_leave y_X9_leave prog_1_method_8_code 2 (Option.some Jvm.ClassFile.FieldType.int) _ (by decide +kernel) (cons_all (clS (k_J6_bitCount l) f_J6_bitCount ⟨rfl, rfl, Nat.le_of_ble_eq_true rfl, Nat.le_of_ble_eq_true rfl⟩ (mg 338 (by decide +kernel))) (cons_all (clV (k_X8_comes l) f_X8_comes ⟨rfl, rfl, Nat.le_of_ble_eq_true rfl, Nat.le_of_ble_eq_true rfl⟩ (mg 348 (by decide +kernel))) nil_all)) (Or.inl (by decide +kernel))
theorem f_X9_leave : calV y_X9_leave prog_1_method_8_code 2 (Option.some Jvm.ClassFile.FieldType.int) 2 8 := ⟨⟨mem_g (i := 347) (by decide +kernel) rfl, mg 25 (by decide +kernel)⟩, by decide +kernel, by decide +kernel, by decide, mg 345 (by decide +kernel), mg 346 (by decide +kernel), _, rfl, rfl⟩
def y_X9_worth : MethodName := ⟨"ActsPaid", "worth", "(II)I"⟩
def t_X9_worth : List (Nat × Ao) := [
  (0, (9, 0, 0, 0, 0, 0, [])),
  (1, (55, 0, 0, 19, 257, 227, [])),
  (4, (7, 0, 0, 1, 0, 0, [])),
  (5, (62, 0, 0, 118, 0, 0, [])),
  (8, (41, 0, 0, 22, 0, 0, [])),
  (11, (9, 0, 0, 0, 0, 0, [])),
  (12, (55, 0, 0, 19, 257, 227, [])),
  (15, (7, 0, 0, 2, 0, 0, [])),
  (16, (62, 0, 0, 121, 0, 0, [])),
  (19, (42, 0, 0, 24, 0, 0, [])),
  (22, (0, (-1), 0, 0, 0, 0, [])),
  (23, (64, 0, 0, 0, 0, 0, [])),
  (24, (9, 0, 0, 0, 0, 0, [])),
  (25, (55, 0, 0, 19, 257, 227, [])),
  (28, (7, 0, 0, 1, 0, 0, [])),
  (29, (7, 0, 0, 2, 0, 0, [])),
  (30, (62, 0, 0, 124, 0, 0, [])),
  (33, (1, (-10), 0, 0, 0, 0, [])),
  (35, (20, 0, 0, 0, 0, 0, [])),
  (36, (64, 0, 0, 0, 0, 0, []))]
def e_X9_worth : Ev := (t_X9_worth, [(118, (2, 1, 0, 8, s_X8_comes)), (121, (2, 1, 0, 8, s_X8_hasAct)), (124, (3, 1, 0, 8, s_X8_worthTo))], 1, 0, false, 0, fun _ => 0)
def s_X9_worth : Sp := spc e_X9_worth 3
theorem m_X9_worth : monoE e_X9_worth := monoE_of (cons_all (p_X8_comes) (cons_all (p_X8_hasAct) (cons_all (p_X8_worthTo) nil_all)))
theorem p_X9_worth : mono s_X9_worth := spc_mono m_X9_worth _
theorem k_X9_worth (l : Launch) : Con l y_X9_worth prog_1_method_9_code 3 (Option.some Jvm.ClassFile.FieldType.int) { frames := 2, cells := 0, slots := 0, locals := 43 } 1 0 s_X9_worth := con_of l e_X9_worth y_X9_worth prog_1_method_9_code 3 (Option.some Jvm.ClassFile.FieldType.int) _ (by decide +kernel) (cons_all (clV (k_X8_comes l) f_X8_comes ⟨rfl, rfl, Nat.le_of_ble_eq_true rfl, Nat.le_of_ble_eq_true rfl⟩ (mg 348 (by decide +kernel))) (cons_all (clV (k_X8_hasAct l) f_X8_hasAct ⟨rfl, rfl, Nat.le_of_ble_eq_true rfl, Nat.le_of_ble_eq_true rfl⟩ (mg 357 (by decide +kernel))) (cons_all (clV (k_X8_worthTo l) f_X8_worthTo ⟨rfl, rfl, Nat.le_of_ble_eq_true rfl, Nat.le_of_ble_eq_true rfl⟩ (mg 361 (by decide +kernel))) nil_all))) (Or.inl (by decide +kernel))
theorem f_X9_worth : calV y_X9_worth prog_1_method_9_code 3 (Option.some Jvm.ClassFile.FieldType.int) 3 8 := ⟨⟨mem_g (i := 356) (by decide +kernel) rfl, mg 25 (by decide +kernel)⟩, by decide +kernel, by decide +kernel, by decide, mg 354 (by decide +kernel), mg 355 (by decide +kernel), _, rfl, rfl⟩
def y_X9_play : MethodName := ⟨"ActsPaid", "play", "()I"⟩
def t_X9_play : List (Nat × Ao) := [
  (0, (9, 0, 0, 0, 0, 0, [])),
  (1, (55, 0, 0, 10, 256, 226, [])),
  (4, (9, 0, 0, 0, 0, 0, [])),
  (5, (55, 0, 0, 19, 257, 227, [])),
  (8, (55, 0, 0, 68, 224, 89, [])),
  (11, (62, 0, 0, 97, 0, 0, [])),
  (14, (1, (-6), 0, 0, 0, 0, [])),
  (16, (47, 0, 0, 22, 0, 0, [])),
  (19, (1, (-5), 0, 0, 0, 0, [])),
  (21, (64, 0, 0, 0, 0, 0, [])),
  (22, (0, 0, 0, 0, 0, 0, [])),
  (23, (13, 0, 0, 1, 0, 0, [])),
  (24, (7, 0, 0, 1, 0, 0, [])),
  (25, (9, 0, 0, 0, 0, 0, [])),
  (26, (55, 0, 0, 19, 257, 227, [])),
  (29, (55, 0, 0, 68, 224, 89, [])),
  (32, (50, 0, 0, 63, 0, 0, [])),
  (35, (9, 0, 0, 0, 0, 0, [])),
  (36, (55, 0, 0, 19, 257, 227, [])),
  (39, (55, 0, 0, 128, 230, 112, [])),
  (42, (7, 0, 0, 1, 0, 0, [])),
  (43, (9, 0, 0, 0, 0, 0, [])),
  (44, (55, 0, 0, 10, 256, 226, [])),
  (47, (7, 0, 0, 1, 0, 0, [])),
  (48, (62, 0, 0, 100, 0, 0, [])),
  (51, (63, 0, 0, 132, 0, 0, [])),
  (54, (63, 0, 0, 135, 0, 0, [])),
  (57, (39, 1, 0, 1, 0, 0, [])),
  (60, (40, 0, 0, 24, 0, 0, [])),
  (63, (9, 0, 0, 0, 0, 0, [])),
  (64, (55, 0, 0, 10, 256, 226, [])),
  (67, (0, 0, 0, 0, 0, 0, [])),
  (68, (56, 0, 0, 91, 97, 54, [])),
  (71, (0, 1, 0, 0, 0, 0, [])),
  (72, (64, 0, 0, 0, 0, 0, []))]
def e_X9_play : Ev := (t_X9_play, [(97, (2, 1, 0, 4, s_X3_orderFault)), (100, (2, 1, 0, 4, s_X3_sign)), (132, (1, 1, 0, 0, s_X3_actTold)), (135, (3, 0, 0, 0, s_X5_put))], 1, 0, false, 0, fun _ => 0)
def s_X9_play : Sp := spc e_X9_play 2
theorem m_X9_play : monoE e_X9_play := monoE_of (cons_all (p_X3_orderFault) (cons_all (p_X3_sign) (cons_all (p_X3_actTold) (cons_all (p_X5_put) nil_all))))
theorem p_X9_play : mono s_X9_play := spc_mono m_X9_play _
theorem k_X9_play (l : Launch) : Con l y_X9_play prog_1_method_10_code 2 (Option.some Jvm.ClassFile.FieldType.int) { frames := 3, cells := 0, slots := 0, locals := 66 } 1 0 s_X9_play := con_of l e_X9_play y_X9_play prog_1_method_10_code 2 (Option.some Jvm.ClassFile.FieldType.int) _ (by decide +kernel) (cons_all (clV (k_X3_orderFault l) f_X3_orderFault ⟨rfl, rfl, Nat.le_of_ble_eq_true rfl, Nat.le_of_ble_eq_true rfl⟩ (mg 319 (by decide +kernel))) (cons_all (clV (k_X3_sign l) f_X3_sign ⟨rfl, rfl, Nat.le_of_ble_eq_true rfl, Nat.le_of_ble_eq_true rfl⟩ (mg 330 (by decide +kernel))) (cons_all (clS (k_X3_actTold l) f_X3_actTold ⟨rfl, rfl, Nat.le_of_ble_eq_true rfl, Nat.le_of_ble_eq_true rfl⟩ (mg 370 (by decide +kernel))) (cons_all (clS (k_X5_put l) f_X5_put ⟨rfl, rfl, Nat.le_of_ble_eq_true rfl, Nat.le_of_ble_eq_true rfl⟩ (mg 371 (by decide +kernel))) nil_all)))) (Or.inl (by decide +kernel))
theorem f_X9_play : calV y_X9_play prog_1_method_10_code 2 (Option.some Jvm.ClassFile.FieldType.int) 1 8 := ⟨⟨mem_g (i := 369) (by decide +kernel) rfl, mg 25 (by decide +kernel)⟩, by decide +kernel, by decide +kernel, by decide, mg 367 (by decide +kernel), mg 368 (by decide +kernel), _, rfl, rfl⟩
def y_X9_leaves : MethodName := ⟨"ActsPaid", "leaves", "(II)I"⟩
def t_X9_leaves : List (Nat × Ao) := [
  (0, (9, 0, 0, 0, 0, 0, [])),
  (1, (55, 0, 0, 19, 257, 227, [])),
  (4, (7, 0, 0, 1, 0, 0, [])),
  (5, (62, 0, 0, 118, 0, 0, [])),
  (8, (42, 0, 0, 13, 0, 0, [])),
  (11, (0, (-1), 0, 0, 0, 0, [])),
  (12, (64, 0, 0, 0, 0, 0, [])),
  (13, (7, 0, 0, 2, 0, 0, [])),
  (14, (0, 0, 0, 0, 0, 0, [])),
  (15, (0, 2, 0, 0, 0, 0, [])),
  (16, (63, 0, 0, 64, 0, 0, [])),
  (19, (42, 0, 0, 25, 0, 0, [])),
  (22, (1, (-2), 0, 0, 0, 0, [])),
  (24, (64, 0, 0, 0, 0, 0, [])),
  (25, (9, 0, 0, 0, 0, 0, [])),
  (26, (55, 0, 0, 19, 257, 227, [])),
  (29, (7, 0, 0, 1, 0, 0, [])),
  (30, (62, 0, 0, 141, 0, 0, [])),
  (33, (13, 0, 0, 3, 0, 0, [])),
  (34, (9, 0, 0, 0, 0, 0, [])),
  (35, (55, 0, 0, 19, 257, 227, [])),
  (38, (9, 0, 0, 0, 0, 0, [])),
  (39, (55, 0, 0, 19, 257, 227, [])),
  (42, (55, 0, 0, 144, 225, 96, [])),
  (45, (7, 0, 0, 3, 0, 0, [])),
  (46, (62, 0, 0, 147, 0, 0, [])),
  (49, (14, 0, 0, 4, 0, 0, [])),
  (51, (7, 0, 0, 2, 0, 0, [])),
  (52, (69, 0, 0, 85, 0, 0, [(0, 80), (1, 82)])),
  (80, (7, 0, 0, 3, 0, 0, [])),
  (81, (64, 0, 0, 0, 0, 0, [])),
  (82, (8, 0, 0, 4, 0, 0, [])),
  (84, (64, 0, 0, 0, 0, 0, [])),
  (85, (9, 0, 0, 0, 0, 0, [])),
  (86, (55, 0, 0, 19, 257, 227, [])),
  (89, (7, 0, 0, 1, 0, 0, [])),
  (90, (7, 0, 0, 3, 0, 0, [])),
  (91, (62, 0, 0, 150, 0, 0, [])),
  (94, (8, 0, 0, 4, 0, 0, [])),
  (96, (20, 0, 0, 0, 0, 0, [])),
  (97, (64, 0, 0, 0, 0, 0, []))]
def e_X9_leaves : Ev := (t_X9_leaves, [(64, (3, 1, 0, 0, s_X9_within)), (118, (2, 1, 0, 8, s_X8_comes)), (141, (2, 1, 0, 8, s_X8_behind)), (147, (3, 1, 0, 8, s_X8_price)), (150, (3, 1, 0, 8, s_X8_worthOfFirst))], 1, 0, false, 0, fun _ => 0)
def s_X9_leaves : Sp := spc e_X9_leaves 5
theorem m_X9_leaves : monoE e_X9_leaves := monoE_of (cons_all (p_X9_within) (cons_all (p_X8_comes) (cons_all (p_X8_behind) (cons_all (p_X8_price) (cons_all (p_X8_worthOfFirst) nil_all)))))
theorem p_X9_leaves : mono s_X9_leaves := spc_mono m_X9_leaves _
theorem k_X9_leaves (l : Launch) : Con l y_X9_leaves prog_1_method_11_code 5 (Option.some Jvm.ClassFile.FieldType.int) { frames := 3, cells := 0, slots := 0, locals := 69 } 1 0 s_X9_leaves := con_of l e_X9_leaves y_X9_leaves prog_1_method_11_code 5 (Option.some Jvm.ClassFile.FieldType.int) _ (by decide +kernel) (cons_all (clS (k_X9_within l) f_X9_within ⟨rfl, rfl, Nat.le_of_ble_eq_true rfl, Nat.le_of_ble_eq_true rfl⟩ (mg 258 (by decide +kernel))) (cons_all (clV (k_X8_comes l) f_X8_comes ⟨rfl, rfl, Nat.le_of_ble_eq_true rfl, Nat.le_of_ble_eq_true rfl⟩ (mg 348 (by decide +kernel))) (cons_all (clV (k_X8_behind l) f_X8_behind ⟨rfl, rfl, Nat.le_of_ble_eq_true rfl, Nat.le_of_ble_eq_true rfl⟩ (mg 376 (by decide +kernel))) (cons_all (clV (k_X8_price l) f_X8_price ⟨rfl, rfl, Nat.le_of_ble_eq_true rfl, Nat.le_of_ble_eq_true rfl⟩ (mg 384 (by decide +kernel))) (cons_all (clV (k_X8_worthOfFirst l) f_X8_worthOfFirst ⟨rfl, rfl, Nat.le_of_ble_eq_true rfl, Nat.le_of_ble_eq_true rfl⟩ (mg 388 (by decide +kernel))) nil_all))))) (Or.inl (by decide +kernel))
theorem f_X9_leaves : calV y_X9_leaves prog_1_method_11_code 5 (Option.some Jvm.ClassFile.FieldType.int) 3 8 := ⟨⟨mem_g (i := 375) (by decide +kernel) rfl, mg 25 (by decide +kernel)⟩, by decide +kernel, by decide +kernel, by decide, mg 373 (by decide +kernel), mg 374 (by decide +kernel), _, rfl, rfl⟩
def y_X9_takings : MethodName := ⟨"ActsPaid", "takings", "()I"⟩
def t_X9_takings : List (Nat × Ao) := [
  (0, (9, 0, 0, 0, 0, 0, [])),
  (1, (55, 0, 0, 19, 257, 227, [])),
  (4, (62, 0, 0, 153, 0, 0, [])),
  (7, (64, 0, 0, 0, 0, 0, []))]
def e_X9_takings : Ev := (t_X9_takings, [(153, (1, 1, 0, 8, s_X8_allPay))], 1, 0, false, 0, fun _ => 0)
def s_X9_takings : Sp := spc e_X9_takings 1
theorem m_X9_takings : monoE e_X9_takings := monoE_of (cons_all (p_X8_allPay) nil_all)
theorem p_X9_takings : mono s_X9_takings := spc_mono m_X9_takings _
theorem k_X9_takings (l : Launch) : Con l y_X9_takings prog_1_method_12_code 1 (Option.some Jvm.ClassFile.FieldType.int) { frames := 5, cells := 0, slots := 0, locals := 112 } 1 0 s_X9_takings := con_of l e_X9_takings y_X9_takings prog_1_method_12_code 1 (Option.some Jvm.ClassFile.FieldType.int) _ (by decide +kernel) (cons_all (clV (k_X8_allPay l) f_X8_allPay ⟨rfl, rfl, Nat.le_of_ble_eq_true rfl, Nat.le_of_ble_eq_true rfl⟩ (mg 396 (by decide +kernel))) nil_all) (Or.inl (by decide +kernel))
theorem f_X9_takings : calV y_X9_takings prog_1_method_12_code 1 (Option.some Jvm.ClassFile.FieldType.int) 1 8 := ⟨⟨mem_g (i := 395) (by decide +kernel) rfl, mg 25 (by decide +kernel)⟩, by decide +kernel, by decide +kernel, by decide, mg 393 (by decide +kernel), mg 394 (by decide +kernel), _, rfl, rfl⟩
def y_X9_stayed : MethodName := ⟨"ActsPaid", "stayed", "(I)I"⟩
def t_X9_stayed : List (Nat × Ao) := [
  (0, (9, 0, 0, 0, 0, 0, [])),
  (1, (55, 0, 0, 19, 257, 227, [])),
  (4, (7, 0, 0, 1, 0, 0, [])),
  (5, (62, 0, 0, 121, 0, 0, [])),
  (8, (42, 0, 0, 13, 0, 0, [])),
  (11, (0, (-1), 0, 0, 0, 0, [])),
  (12, (64, 0, 0, 0, 0, 0, [])),
  (13, (0, 0, 0, 0, 0, 0, [])),
  (14, (13, 0, 0, 2, 0, 0, [])),
  (15, (0, 0, 0, 0, 0, 0, [])),
  (16, (13, 0, 0, 3, 0, 0, [])),
  (17, (7, 0, 0, 3, 0, 0, [])),
  (18, (1, 8, 0, 0, 0, 0, [])),
  (20, (50, 0, 0, 55, 0, 0, [])),
  (23, (9, 0, 0, 0, 0, 0, [])),
  (24, (55, 0, 0, 19, 257, 227, [])),
  (27, (7, 0, 0, 3, 0, 0, [])),
  (28, (62, 0, 0, 118, 0, 0, [])),
  (31, (41, 0, 0, 49, 0, 0, [])),
  (34, (9, 0, 0, 0, 0, 0, [])),
  (35, (55, 0, 0, 19, 257, 227, [])),
  (38, (7, 0, 0, 3, 0, 0, [])),
  (39, (62, 0, 0, 141, 0, 0, [])),
  (42, (7, 0, 0, 1, 0, 0, [])),
  (43, (52, 0, 0, 49, 0, 0, [])),
  (46, (39, 1, 0, 2, 0, 0, [])),
  (49, (39, 1, 0, 3, 0, 0, [])),
  (52, (40, 0, 0, 17, 0, 0, [])),
  (55, (7, 0, 0, 2, 0, 0, [])),
  (56, (64, 0, 0, 0, 0, 0, []))]
def e_X9_stayed : Ev := (t_X9_stayed, [(118, (2, 1, 0, 8, s_X8_comes)), (121, (2, 1, 0, 8, s_X8_hasAct)), (141, (2, 1, 0, 8, s_X8_behind))], 1, 0, false, 0, fun _ => 0)
def s_X9_stayed : Sp := spc e_X9_stayed 4
theorem m_X9_stayed : monoE e_X9_stayed := monoE_of (cons_all (p_X8_comes) (cons_all (p_X8_hasAct) (cons_all (p_X8_behind) nil_all)))
theorem p_X9_stayed : mono s_X9_stayed := spc_mono m_X9_stayed _
theorem k_X9_stayed (l : Launch) : Con l y_X9_stayed prog_1_method_13_code 4 (Option.some Jvm.ClassFile.FieldType.int) { frames := 3, cells := 0, slots := 0, locals := 69 } 1 0 s_X9_stayed := con_of l e_X9_stayed y_X9_stayed prog_1_method_13_code 4 (Option.some Jvm.ClassFile.FieldType.int) _ (by decide +kernel) (cons_all (clV (k_X8_comes l) f_X8_comes ⟨rfl, rfl, Nat.le_of_ble_eq_true rfl, Nat.le_of_ble_eq_true rfl⟩ (mg 348 (by decide +kernel))) (cons_all (clV (k_X8_hasAct l) f_X8_hasAct ⟨rfl, rfl, Nat.le_of_ble_eq_true rfl, Nat.le_of_ble_eq_true rfl⟩ (mg 357 (by decide +kernel))) (cons_all (clV (k_X8_behind l) f_X8_behind ⟨rfl, rfl, Nat.le_of_ble_eq_true rfl, Nat.le_of_ble_eq_true rfl⟩ (mg 376 (by decide +kernel))) nil_all))) (Or.inl (by decide +kernel))
theorem f_X9_stayed : calV y_X9_stayed prog_1_method_13_code 4 (Option.some Jvm.ClassFile.FieldType.int) 2 8 := ⟨⟨mem_g (i := 410) (by decide +kernel) rfl, mg 25 (by decide +kernel)⟩, by decide +kernel, by decide +kernel, by decide, mg 408 (by decide +kernel), mg 409 (by decide +kernel), _, rfl, rfl⟩
def y_X9_tried : MethodName := ⟨"ActsPaid", "tried", "()LActsPaid$Stage;"⟩
def t_X9_tried : List (Nat × Ao) := [
  (0, (9, 0, 0, 0, 0, 0, [])),
  (1, (55, 0, 0, 23, 258, 228, [])),
  (4, (9, 0, 0, 0, 0, 0, [])),
  (5, (55, 0, 0, 19, 257, 227, [])),
  (8, (62, 0, 0, 244, 0, 0, [])),
  (11, (9, 0, 0, 0, 0, 0, [])),
  (12, (55, 0, 0, 23, 258, 228, [])),
  (15, (67, 0, 0, 0, 0, 0, []))]
def e_X9_tried : Ev := (t_X9_tried, [(244, (2, 0, 0, 8, s_X8_copyFrom))], 3, 7, false, 0, fun _ => 0)
def s_X9_tried : Sp := spc e_X9_tried 1
theorem m_X9_tried : monoE e_X9_tried := monoE_of (cons_all (p_X8_copyFrom) nil_all)
theorem p_X9_tried : mono s_X9_tried := spc_mono m_X9_tried _
theorem k_X9_tried (l : Launch) : Con l y_X9_tried prog_1_method_33_code 1 (Option.some (Jvm.ClassFile.FieldType.object "ActsPaid$Stage")) { frames := 3, cells := 0, slots := 0, locals := 64 } 3 7 s_X9_tried := con_of l e_X9_tried y_X9_tried prog_1_method_33_code 1 (Option.some (Jvm.ClassFile.FieldType.object "ActsPaid$Stage")) _ (by decide +kernel) (cons_all (clV (k_X8_copyFrom l) f_X8_copyFrom ⟨rfl, rfl, Nat.le_of_ble_eq_true rfl, Nat.le_of_ble_eq_true rfl⟩ (mg 419 (by decide +kernel))) nil_all) (Or.inl (by decide +kernel))
theorem f_X9_tried : calV y_X9_tried prog_1_method_33_code 1 (Option.some (Jvm.ClassFile.FieldType.object "ActsPaid$Stage")) 1 8 := ⟨⟨mem_g (i := 418) (by decide +kernel) rfl, mg 25 (by decide +kernel)⟩, by decide +kernel, by decide +kernel, by decide, mg 417 (by decide +kernel), mg 0 (by decide +kernel), _, rfl, rfl⟩
def y_X9_fares : MethodName := ⟨"ActsPaid", "fares", "(I)I"⟩
def t_X9_fares : List (Nat × Ao) := [
  (0, (7, 0, 0, 1, 0, 0, [])),
  (1, (0, 0, 0, 0, 0, 0, [])),
  (2, (0, 2, 0, 0, 0, 0, [])),
  (3, (63, 0, 0, 64, 0, 0, [])),
  (6, (42, 0, 0, 12, 0, 0, [])),
  (9, (1, (-2), 0, 0, 0, 0, [])),
  (11, (64, 0, 0, 0, 0, 0, [])),
  (12, (9, 0, 0, 0, 0, 0, [])),
  (13, (62, 0, 0, 157, 0, 0, [])),
  (16, (7, 0, 0, 1, 0, 0, [])),
  (17, (63, 0, 0, 161, 0, 0, [])),
  (20, (64, 0, 0, 0, 0, 0, []))]
def e_X9_fares : Ev := (t_X9_fares, [(64, (3, 1, 0, 0, s_X9_within)), (157, (1, 3, 7, 9, s_X9_tried)), (161, (2, 1, 0, 0, s_X4_faresForMost))], 1, 0, false, 0, fun _ => 0)
def s_X9_fares : Sp := spc e_X9_fares 2
theorem m_X9_fares : monoE e_X9_fares := monoE_of (cons_all (p_X9_within) (cons_all (p_X9_tried) (cons_all (p_X4_faresForMost) nil_all)))
theorem p_X9_fares : mono s_X9_fares := spc_mono m_X9_fares _
theorem k_X9_fares (l : Launch) : Con l y_X9_fares prog_1_method_14_code 2 (Option.some Jvm.ClassFile.FieldType.int) { frames := 6, cells := 0, slots := 0, locals := 137 } 1 0 s_X9_fares := con_of l e_X9_fares y_X9_fares prog_1_method_14_code 2 (Option.some Jvm.ClassFile.FieldType.int) _ (by decide +kernel) (cons_all (clS (k_X9_within l) f_X9_within ⟨rfl, rfl, Nat.le_of_ble_eq_true rfl, Nat.le_of_ble_eq_true rfl⟩ (mg 258 (by decide +kernel))) (cons_all (clV (k_X9_tried l) f_X9_tried ⟨rfl, rfl, Nat.le_of_ble_eq_true rfl, Nat.le_of_ble_eq_true rfl⟩ (mg 415 (by decide +kernel))) (cons_all (clS (k_X4_faresForMost l) f_X4_faresForMost ⟨rfl, rfl, Nat.le_of_ble_eq_true rfl, Nat.le_of_ble_eq_true rfl⟩ (mg 431 (by decide +kernel))) nil_all))) (Or.inl (by decide +kernel))
theorem f_X9_fares : calV y_X9_fares prog_1_method_14_code 2 (Option.some Jvm.ClassFile.FieldType.int) 2 8 := ⟨⟨mem_g (i := 414) (by decide +kernel) rfl, mg 25 (by decide +kernel)⟩, by decide +kernel, by decide +kernel, by decide, mg 412 (by decide +kernel), mg 413 (by decide +kernel), _, rfl, rfl⟩
def y_X9_must : MethodName := ⟨"ActsPaid", "must", "(II)I"⟩
def t_X9_must : List (Nat × Ao) := [
  (0, (9, 0, 0, 0, 0, 0, [])),
  (1, (55, 0, 0, 19, 257, 227, [])),
  (4, (7, 0, 0, 1, 0, 0, [])),
  (5, (62, 0, 0, 121, 0, 0, [])),
  (8, (41, 0, 0, 27, 0, 0, [])),
  (11, (9, 0, 0, 0, 0, 0, [])),
  (12, (55, 0, 0, 19, 257, 227, [])),
  (15, (7, 0, 0, 2, 0, 0, [])),
  (16, (62, 0, 0, 121, 0, 0, [])),
  (19, (41, 0, 0, 27, 0, 0, [])),
  (22, (7, 0, 0, 1, 0, 0, [])),
  (23, (7, 0, 0, 2, 0, 0, [])),
  (24, (48, 0, 0, 29, 0, 0, [])),
  (27, (0, (-1), 0, 0, 0, 0, [])),
  (28, (64, 0, 0, 0, 0, 0, [])),
  (29, (9, 0, 0, 0, 0, 0, [])),
  (30, (55, 0, 0, 19, 257, 227, [])),
  (33, (7, 0, 0, 1, 0, 0, [])),
  (34, (7, 0, 0, 2, 0, 0, [])),
  (35, (62, 0, 0, 165, 0, 0, [])),
  (38, (41, 0, 0, 44, 0, 0, [])),
  (41, (1, (-3), 0, 0, 0, 0, [])),
  (43, (64, 0, 0, 0, 0, 0, [])),
  (44, (9, 0, 0, 0, 0, 0, [])),
  (45, (55, 0, 0, 19, 257, 227, [])),
  (48, (7, 0, 0, 2, 0, 0, [])),
  (49, (7, 0, 0, 1, 0, 0, [])),
  (50, (62, 0, 0, 169, 0, 0, [])),
  (53, (0, 1, 0, 0, 0, 0, [])),
  (54, (64, 0, 0, 0, 0, 0, []))]
def e_X9_must : Ev := (t_X9_must, [(121, (2, 1, 0, 8, s_X8_hasAct)), (165, (3, 1, 0, 8, s_X8_isAfter)), (169, (3, 0, 0, 8, s_X8_putAfter))], 1, 0, false, 0, fun _ => 0)
def s_X9_must : Sp := spc e_X9_must 3
theorem m_X9_must : monoE e_X9_must := monoE_of (cons_all (p_X8_hasAct) (cons_all (p_X8_isAfter) (cons_all (p_X8_putAfter) nil_all)))
theorem p_X9_must : mono s_X9_must := spc_mono m_X9_must _
theorem k_X9_must (l : Launch) : Con l y_X9_must prog_1_method_15_code 3 (Option.some Jvm.ClassFile.FieldType.int) { frames := 3, cells := 0, slots := 0, locals := 67 } 1 0 s_X9_must := con_of l e_X9_must y_X9_must prog_1_method_15_code 3 (Option.some Jvm.ClassFile.FieldType.int) _ (by decide +kernel) (cons_all (clV (k_X8_hasAct l) f_X8_hasAct ⟨rfl, rfl, Nat.le_of_ble_eq_true rfl, Nat.le_of_ble_eq_true rfl⟩ (mg 357 (by decide +kernel))) (cons_all (clV (k_X8_isAfter l) f_X8_isAfter ⟨rfl, rfl, Nat.le_of_ble_eq_true rfl, Nat.le_of_ble_eq_true rfl⟩ (mg 439 (by decide +kernel))) (cons_all (clV (k_X8_putAfter l) f_X8_putAfter ⟨rfl, rfl, Nat.le_of_ble_eq_true rfl, Nat.le_of_ble_eq_true rfl⟩ (mg 443 (by decide +kernel))) nil_all))) (Or.inl (by decide +kernel))
theorem f_X9_must : calV y_X9_must prog_1_method_15_code 3 (Option.some Jvm.ClassFile.FieldType.int) 3 8 := ⟨⟨mem_g (i := 438) (by decide +kernel) rfl, mg 25 (by decide +kernel)⟩, by decide +kernel, by decide +kernel, by decide, mg 436 (by decide +kernel), mg 437 (by decide +kernel), _, rfl, rfl⟩
def y_X9_order : MethodName := ⟨"ActsPaid", "order", "(I)I"⟩
def t_X9_order : List (Nat × Ao) := [
  (0, (7, 0, 0, 1, 0, 0, [])),
  (1, (0, (-1), 0, 0, 0, 0, [])),
  (2, (9, 0, 0, 0, 0, 0, [])),
  (3, (55, 0, 0, 19, 257, 227, [])),
  (6, (55, 0, 0, 68, 224, 89, [])),
  (9, (0, 1, 0, 0, 0, 0, [])),
  (10, (20, 0, 0, 0, 0, 0, [])),
  (11, (63, 0, 0, 64, 0, 0, [])),
  (14, (42, 0, 0, 20, 0, 0, [])),
  (17, (1, (-6), 0, 0, 0, 0, [])),
  (19, (64, 0, 0, 0, 0, 0, [])),
  (20, (9, 0, 0, 0, 0, 0, [])),
  (21, (55, 0, 0, 39, 261, 231, [])),
  (24, (9, 0, 0, 0, 0, 0, [])),
  (25, (62, 0, 0, 157, 0, 0, [])),
  (28, (7, 0, 0, 1, 0, 0, [])),
  (29, (62, 0, 0, 172, 0, 0, [])),
  (32, (64, 0, 0, 0, 0, 0, []))]
def e_X9_order : Ev := (t_X9_order, [(64, (3, 1, 0, 0, s_X9_within)), (157, (1, 3, 7, 9, s_X9_tried)), (172, (3, 1, 0, 5, s_X4_orderForMost))], 1, 0, false, 0, fun _ => 0)
def s_X9_order : Sp := spc e_X9_order 2
theorem m_X9_order : monoE e_X9_order := monoE_of (cons_all (p_X9_within) (cons_all (p_X9_tried) (cons_all (p_X4_orderForMost) nil_all)))
theorem p_X9_order : mono s_X9_order := spc_mono m_X9_order _
theorem k_X9_order (l : Launch) : Con l y_X9_order prog_1_method_16_code 2 (Option.some Jvm.ClassFile.FieldType.int) { frames := 6, cells := 0, slots := 0, locals := 137 } 1 0 s_X9_order := con_of l e_X9_order y_X9_order prog_1_method_16_code 2 (Option.some Jvm.ClassFile.FieldType.int) _ (by decide +kernel) (cons_all (clS (k_X9_within l) f_X9_within ⟨rfl, rfl, Nat.le_of_ble_eq_true rfl, Nat.le_of_ble_eq_true rfl⟩ (mg 258 (by decide +kernel))) (cons_all (clV (k_X9_tried l) f_X9_tried ⟨rfl, rfl, Nat.le_of_ble_eq_true rfl, Nat.le_of_ble_eq_true rfl⟩ (mg 415 (by decide +kernel))) (cons_all (clV (k_X4_orderForMost l) f_X4_orderForMost ⟨rfl, rfl, Nat.le_of_ble_eq_true rfl, Nat.le_of_ble_eq_true rfl⟩ (mg 452 (by decide +kernel))) nil_all))) (Or.inl (by decide +kernel))
theorem f_X9_order : calV y_X9_order prog_1_method_16_code 2 (Option.some Jvm.ClassFile.FieldType.int) 2 8 := ⟨⟨mem_g (i := 451) (by decide +kernel) rfl, mg 25 (by decide +kernel)⟩, by decide +kernel, by decide +kernel, by decide, mg 449 (by decide +kernel), mg 450 (by decide +kernel), _, rfl, rfl⟩
def y_X9_claque : MethodName := ⟨"ActsPaid", "claque", "(II)I"⟩
def t_X9_claque : List (Nat × Ao) := [
  (0, (7, 0, 0, 1, 0, 0, [])),
  (1, (0, 1, 0, 0, 0, 0, [])),
  (2, (1, 25, 0, 0, 0, 0, [])),
  (4, (63, 0, 0, 64, 0, 0, [])),
  (7, (41, 0, 0, 19, 0, 0, [])),
  (10, (7, 0, 0, 2, 0, 0, [])),
  (11, (0, 0, 0, 0, 0, 0, [])),
  (12, (0, 1, 0, 0, 0, 0, [])),
  (13, (63, 0, 0, 64, 0, 0, [])),
  (16, (42, 0, 0, 22, 0, 0, [])),
  (19, (1, (-2), 0, 0, 0, 0, [])),
  (21, (64, 0, 0, 0, 0, 0, [])),
  (22, (9, 0, 0, 0, 0, 0, [])),
  (23, (62, 0, 0, 157, 0, 0, [])),
  (26, (7, 0, 0, 1, 0, 0, [])),
  (27, (7, 0, 0, 2, 0, 0, [])),
  (28, (63, 0, 0, 175, 0, 0, [])),
  (31, (64, 0, 0, 0, 0, 0, []))]
def e_X9_claque : Ev := (t_X9_claque, [(64, (3, 1, 0, 0, s_X9_within)), (157, (1, 3, 7, 9, s_X9_tried)), (175, (3, 1, 0, 0, s_X4_actForClaque))], 1, 0, false, 0, fun _ => 0)
def s_X9_claque : Sp := spc e_X9_claque 3
theorem m_X9_claque : monoE e_X9_claque := monoE_of (cons_all (p_X9_within) (cons_all (p_X9_tried) (cons_all (p_X4_actForClaque) nil_all)))
theorem p_X9_claque : mono s_X9_claque := spc_mono m_X9_claque _
theorem k_X9_claque (l : Launch) : Con l y_X9_claque prog_1_method_17_code 3 (Option.some Jvm.ClassFile.FieldType.int) { frames := 6, cells := 0, slots := 0, locals := 138 } 1 0 s_X9_claque := con_of l e_X9_claque y_X9_claque prog_1_method_17_code 3 (Option.some Jvm.ClassFile.FieldType.int) _ (by decide +kernel) (cons_all (clS (k_X9_within l) f_X9_within ⟨rfl, rfl, Nat.le_of_ble_eq_true rfl, Nat.le_of_ble_eq_true rfl⟩ (mg 258 (by decide +kernel))) (cons_all (clV (k_X9_tried l) f_X9_tried ⟨rfl, rfl, Nat.le_of_ble_eq_true rfl, Nat.le_of_ble_eq_true rfl⟩ (mg 415 (by decide +kernel))) (cons_all (clS (k_X4_actForClaque l) f_X4_actForClaque ⟨rfl, rfl, Nat.le_of_ble_eq_true rfl, Nat.le_of_ble_eq_true rfl⟩ (mg 475 (by decide +kernel))) nil_all))) (Or.inl (by decide +kernel))
theorem f_X9_claque : calV y_X9_claque prog_1_method_17_code 3 (Option.some Jvm.ClassFile.FieldType.int) 3 8 := ⟨⟨mem_g (i := 474) (by decide +kernel) rfl, mg 25 (by decide +kernel)⟩, by decide +kernel, by decide +kernel, by decide, mg 472 (by decide +kernel), mg 473 (by decide +kernel), _, rfl, rfl⟩
def y_X9_friends : MethodName := ⟨"ActsPaid", "friends", "(II)I"⟩
def t_X9_friends : List (Nat × Ao) := [
  (0, (7, 0, 0, 1, 0, 0, [])),
  (1, (0, 0, 0, 0, 0, 0, [])),
  (2, (1, 7, 0, 0, 0, 0, [])),
  (4, (63, 0, 0, 64, 0, 0, [])),
  (7, (41, 0, 0, 24, 0, 0, [])),
  (10, (7, 0, 0, 2, 0, 0, [])),
  (11, (0, 0, 0, 0, 0, 0, [])),
  (12, (1, 7, 0, 0, 0, 0, [])),
  (14, (63, 0, 0, 64, 0, 0, [])),
  (17, (41, 0, 0, 24, 0, 0, [])),
  (20, (0, 1, 0, 0, 0, 0, [])),
  (21, (40, 0, 0, 25, 0, 0, [])),
  (24, (0, 0, 0, 0, 0, 0, [])),
  (25, (13, 0, 0, 3, 0, 0, [])),
  (26, (7, 0, 0, 3, 0, 0, [])),
  (27, (41, 0, 0, 35, 0, 0, [])),
  (30, (7, 0, 0, 1, 0, 0, [])),
  (31, (7, 0, 0, 2, 0, 0, [])),
  (32, (48, 0, 0, 37, 0, 0, [])),
  (35, (0, (-1), 0, 0, 0, 0, [])),
  (36, (64, 0, 0, 0, 0, 0, [])),
  (37, (9, 0, 0, 0, 0, 0, [])),
  (38, (55, 0, 0, 19, 257, 227, [])),
  (41, (7, 0, 0, 1, 0, 0, [])),
  (42, (7, 0, 0, 2, 0, 0, [])),
  (43, (62, 0, 0, 179, 0, 0, [])),
  (46, (9, 0, 0, 0, 0, 0, [])),
  (47, (55, 0, 0, 19, 257, 227, [])),
  (50, (7, 0, 0, 2, 0, 0, [])),
  (51, (7, 0, 0, 1, 0, 0, [])),
  (52, (62, 0, 0, 179, 0, 0, [])),
  (55, (0, 1, 0, 0, 0, 0, [])),
  (56, (64, 0, 0, 0, 0, 0, []))]
def e_X9_friends : Ev := (t_X9_friends, [(64, (3, 1, 0, 0, s_X9_within)), (179, (3, 0, 0, 8, s_X8_befriend))], 1, 0, false, 0, fun _ => 0)
def s_X9_friends : Sp := spc e_X9_friends 4
theorem m_X9_friends : monoE e_X9_friends := monoE_of (cons_all (p_X9_within) (cons_all (p_X8_befriend) nil_all))
theorem p_X9_friends : mono s_X9_friends := spc_mono m_X9_friends _
theorem k_X9_friends (l : Launch) : Con l y_X9_friends prog_1_method_18_code 4 (Option.some Jvm.ClassFile.FieldType.int) { frames := 2, cells := 0, slots := 0, locals := 44 } 1 0 s_X9_friends := con_of l e_X9_friends y_X9_friends prog_1_method_18_code 4 (Option.some Jvm.ClassFile.FieldType.int) _ (by decide +kernel) (cons_all (clS (k_X9_within l) f_X9_within ⟨rfl, rfl, Nat.le_of_ble_eq_true rfl, Nat.le_of_ble_eq_true rfl⟩ (mg 258 (by decide +kernel))) (cons_all (clV (k_X8_befriend l) f_X8_befriend ⟨rfl, rfl, Nat.le_of_ble_eq_true rfl, Nat.le_of_ble_eq_true rfl⟩ (mg 487 (by decide +kernel))) nil_all)) (Or.inl (by decide +kernel))
theorem f_X9_friends : calV y_X9_friends prog_1_method_18_code 4 (Option.some Jvm.ClassFile.FieldType.int) 3 8 := ⟨⟨mem_g (i := 486) (by decide +kernel) rfl, mg 25 (by decide +kernel)⟩, by decide +kernel, by decide +kernel, by decide, mg 484 (by decide +kernel), mg 485 (by decide +kernel), _, rfl, rfl⟩
def y_X9_seating : MethodName := ⟨"ActsPaid", "seating", "(I)I"⟩
def t_X9_seating : List (Nat × Ao) := [
  (0, (9, 0, 0, 0, 0, 0, [])),
  (1, (55, 0, 0, 46, 262, 232, [])),
  (4, (9, 0, 0, 0, 0, 0, [])),
  (5, (55, 0, 0, 19, 257, 227, [])),
  (8, (7, 0, 0, 1, 0, 0, [])),
  (9, (62, 0, 0, 182, 0, 0, [])),
  (12, (64, 0, 0, 0, 0, 0, []))]
def e_X9_seating : Ev := (t_X9_seating, [(182, (3, 1, 0, 6, s_X6_seated))], 1, 0, false, 0, fun _ => 0)
def s_X9_seating : Sp := spc e_X9_seating 2
theorem m_X9_seating : monoE e_X9_seating := monoE_of (cons_all (p_X6_seated) nil_all)
theorem p_X9_seating : mono s_X9_seating := spc_mono m_X9_seating _
theorem k_X9_seating (l : Launch) : Con l y_X9_seating prog_1_method_19_code 2 (Option.some Jvm.ClassFile.FieldType.int) { frames := 6, cells := 0, slots := 0, locals := 140 } 1 0 s_X9_seating := con_of l e_X9_seating y_X9_seating prog_1_method_19_code 2 (Option.some Jvm.ClassFile.FieldType.int) _ (by decide +kernel) (cons_all (clV (k_X6_seated l) f_X6_seated ⟨rfl, rfl, Nat.le_of_ble_eq_true rfl, Nat.le_of_ble_eq_true rfl⟩ (mg 495 (by decide +kernel))) nil_all) (Or.inl (by decide +kernel))
theorem f_X9_seating : calV y_X9_seating prog_1_method_19_code 2 (Option.some Jvm.ClassFile.FieldType.int) 2 8 := ⟨⟨mem_g (i := 494) (by decide +kernel) rfl, mg 25 (by decide +kernel)⟩, by decide +kernel, by decide +kernel, by decide, mg 492 (by decide +kernel), mg 493 (by decide +kernel), _, rfl, rfl⟩
def y_X9_other : MethodName := ⟨"ActsPaid", "other", "(II)I"⟩
def t_X9_other : List (Nat × Ao) := [
  (0, (9, 0, 0, 0, 0, 0, [])),
  (1, (55, 0, 0, 19, 257, 227, [])),
  (4, (7, 0, 0, 1, 0, 0, [])),
  (5, (62, 0, 0, 121, 0, 0, [])),
  (8, (42, 0, 0, 13, 0, 0, [])),
  (11, (0, (-1), 0, 0, 0, 0, [])),
  (12, (64, 0, 0, 0, 0, 0, [])),
  (13, (7, 0, 0, 2, 0, 0, [])),
  (14, (0, 0, 0, 0, 0, 0, [])),
  (15, (1, 25, 0, 0, 0, 0, [])),
  (17, (63, 0, 0, 64, 0, 0, [])),
  (20, (42, 0, 0, 26, 0, 0, [])),
  (23, (1, (-2), 0, 0, 0, 0, [])),
  (25, (64, 0, 0, 0, 0, 0, [])),
  (26, (9, 0, 0, 0, 0, 0, [])),
  (27, (55, 0, 0, 19, 257, 227, [])),
  (30, (55, 0, 0, 185, 232, 116, [])),
  (33, (7, 0, 0, 1, 0, 0, [])),
  (34, (63, 0, 0, 188, 0, 0, [])),
  (37, (13, 0, 0, 3, 0, 0, [])),
  (38, (9, 0, 0, 0, 0, 0, [])),
  (39, (55, 0, 0, 19, 257, 227, [])),
  (42, (55, 0, 0, 185, 232, 116, [])),
  (45, (7, 0, 0, 1, 0, 0, [])),
  (46, (7, 0, 0, 2, 0, 0, [])),
  (47, (63, 0, 0, 135, 0, 0, [])),
  (50, (7, 0, 0, 3, 0, 0, [])),
  (51, (64, 0, 0, 0, 0, 0, []))]
def e_X9_other : Ev := (t_X9_other, [(64, (3, 1, 0, 0, s_X9_within)), (121, (2, 1, 0, 8, s_X8_hasAct)), (135, (3, 0, 0, 0, s_X5_put)), (188, (2, 1, 0, 0, s_X5_at))], 1, 0, false, 0, fun _ => 0)
def s_X9_other : Sp := spc e_X9_other 4
theorem m_X9_other : monoE e_X9_other := monoE_of (cons_all (p_X9_within) (cons_all (p_X8_hasAct) (cons_all (p_X5_put) (cons_all (p_X5_at) nil_all))))
theorem p_X9_other : mono s_X9_other := spc_mono m_X9_other _
theorem k_X9_other (l : Launch) : Con l y_X9_other prog_1_method_20_code 4 (Option.some Jvm.ClassFile.FieldType.int) { frames := 2, cells := 0, slots := 0, locals := 43 } 1 0 s_X9_other := con_of l e_X9_other y_X9_other prog_1_method_20_code 4 (Option.some Jvm.ClassFile.FieldType.int) _ (by decide +kernel) (cons_all (clS (k_X9_within l) f_X9_within ⟨rfl, rfl, Nat.le_of_ble_eq_true rfl, Nat.le_of_ble_eq_true rfl⟩ (mg 258 (by decide +kernel))) (cons_all (clV (k_X8_hasAct l) f_X8_hasAct ⟨rfl, rfl, Nat.le_of_ble_eq_true rfl, Nat.le_of_ble_eq_true rfl⟩ (mg 357 (by decide +kernel))) (cons_all (clS (k_X5_put l) f_X5_put ⟨rfl, rfl, Nat.le_of_ble_eq_true rfl, Nat.le_of_ble_eq_true rfl⟩ (mg 371 (by decide +kernel))) (cons_all (clS (k_X5_at l) f_X5_at ⟨rfl, rfl, Nat.le_of_ble_eq_true rfl, Nat.le_of_ble_eq_true rfl⟩ (mg 538 (by decide +kernel))) nil_all)))) (Or.inl (by decide +kernel))
theorem f_X9_other : calV y_X9_other prog_1_method_20_code 4 (Option.some Jvm.ClassFile.FieldType.int) 3 8 := ⟨⟨mem_g (i := 537) (by decide +kernel) rfl, mg 25 (by decide +kernel)⟩, by decide +kernel, by decide +kernel, by decide, mg 535 (by decide +kernel), mg 536 (by decide +kernel), _, rfl, rfl⟩
def y_X9_over : MethodName := ⟨"ActsPaid", "over", "(II)I"⟩
def t_X9_over : List (Nat × Ao) := [
  (0, (9, 0, 0, 0, 0, 0, [])),
  (1, (55, 0, 0, 19, 257, 227, [])),
  (4, (7, 0, 0, 1, 0, 0, [])),
  (5, (62, 0, 0, 118, 0, 0, [])),
  (8, (42, 0, 0, 13, 0, 0, [])),
  (11, (0, (-1), 0, 0, 0, 0, [])),
  (12, (64, 0, 0, 0, 0, 0, [])),
  (13, (7, 0, 0, 2, 0, 0, [])),
  (14, (0, 0, 0, 0, 0, 0, [])),
  (15, (0, 1, 0, 0, 0, 0, [])),
  (16, (63, 0, 0, 64, 0, 0, [])),
  (19, (42, 0, 0, 25, 0, 0, [])),
  (22, (1, (-2), 0, 0, 0, 0, [])),
  (24, (64, 0, 0, 0, 0, 0, [])),
  (25, (9, 0, 0, 0, 0, 0, [])),
  (26, (55, 0, 0, 53, 263, 233, [])),
  (29, (9, 0, 0, 0, 0, 0, [])),
  (30, (55, 0, 0, 19, 257, 227, [])),
  (33, (7, 0, 0, 1, 0, 0, [])),
  (34, (62, 0, 0, 192, 0, 0, [])),
  (37, (7, 0, 0, 2, 0, 0, [])),
  (38, (42, 0, 0, 51, 0, 0, [])),
  (41, (9, 0, 0, 0, 0, 0, [])),
  (42, (55, 0, 0, 53, 263, 233, [])),
  (45, (55, 0, 0, 196, 32, 194, [])),
  (48, (40, 0, 0, 58, 0, 0, [])),
  (51, (9, 0, 0, 0, 0, 0, [])),
  (52, (55, 0, 0, 53, 263, 233, [])),
  (55, (55, 0, 0, 199, 33, 196, [])),
  (58, (64, 0, 0, 0, 0, 0, []))]
def e_X9_over : Ev := (t_X9_over, [(64, (3, 1, 0, 0, s_X9_within)), (118, (2, 1, 0, 8, s_X8_comes)), (192, (3, 0, 0, 2, s_X1_send))], 1, 0, false, 0, fun _ => 0)
def s_X9_over : Sp := spc e_X9_over 3
theorem m_X9_over : monoE e_X9_over := monoE_of (cons_all (p_X9_within) (cons_all (p_X8_comes) (cons_all (p_X1_send) nil_all)))
theorem p_X9_over : mono s_X9_over := spc_mono m_X9_over _
theorem k_X9_over (l : Launch) : Con l y_X9_over prog_1_method_21_code 3 (Option.some Jvm.ClassFile.FieldType.int) { frames := 3, cells := 0, slots := 0, locals := 70 } 1 0 s_X9_over := con_of l e_X9_over y_X9_over prog_1_method_21_code 3 (Option.some Jvm.ClassFile.FieldType.int) _ (by decide +kernel) (cons_all (clS (k_X9_within l) f_X9_within ⟨rfl, rfl, Nat.le_of_ble_eq_true rfl, Nat.le_of_ble_eq_true rfl⟩ (mg 258 (by decide +kernel))) (cons_all (clV (k_X8_comes l) f_X8_comes ⟨rfl, rfl, Nat.le_of_ble_eq_true rfl, Nat.le_of_ble_eq_true rfl⟩ (mg 348 (by decide +kernel))) (cons_all (clV (k_X1_send l) f_X1_send ⟨rfl, rfl, Nat.le_of_ble_eq_true rfl, Nat.le_of_ble_eq_true rfl⟩ (mg 543 (by decide +kernel))) nil_all))) (Or.inl (by decide +kernel))
theorem f_X9_over : calV y_X9_over prog_1_method_21_code 3 (Option.some Jvm.ClassFile.FieldType.int) 3 8 := ⟨⟨mem_g (i := 542) (by decide +kernel) rfl, mg 25 (by decide +kernel)⟩, by decide +kernel, by decide +kernel, by decide, mg 540 (by decide +kernel), mg 541 (by decide +kernel), _, rfl, rfl⟩
def y_X9_both : MethodName := ⟨"ActsPaid", "both", "(I)I"⟩
def t_X9_both : List (Nat × Ao) := [
  (0, (7, 0, 0, 1, 0, 0, [])),
  (1, (0, 0, 0, 0, 0, 0, [])),
  (2, (0, 1, 0, 0, 0, 0, [])),
  (3, (63, 0, 0, 64, 0, 0, [])),
  (6, (42, 0, 0, 12, 0, 0, [])),
  (9, (1, (-2), 0, 0, 0, 0, [])),
  (11, (64, 0, 0, 0, 0, 0, [])),
  (12, (9, 0, 0, 0, 0, 0, [])),
  (13, (55, 0, 0, 53, 263, 233, [])),
  (16, (9, 0, 0, 0, 0, 0, [])),
  (17, (55, 0, 0, 19, 257, 227, [])),
  (20, (62, 0, 0, 202, 0, 0, [])),
  (23, (7, 0, 0, 1, 0, 0, [])),
  (24, (42, 0, 0, 37, 0, 0, [])),
  (27, (9, 0, 0, 0, 0, 0, [])),
  (28, (55, 0, 0, 53, 263, 233, [])),
  (31, (55, 0, 0, 206, 34, 198, [])),
  (34, (40, 0, 0, 44, 0, 0, [])),
  (37, (9, 0, 0, 0, 0, 0, [])),
  (38, (55, 0, 0, 53, 263, 233, [])),
  (41, (55, 0, 0, 209, 35, 200, [])),
  (44, (64, 0, 0, 0, 0, 0, []))]
def e_X9_both : Ev := (t_X9_both, [(64, (3, 1, 0, 0, s_X9_within)), (202, (2, 0, 0, 2, s_X1_sendAll))], 1, 0, false, 0, fun _ => 0)
def s_X9_both : Sp := spc e_X9_both 2
theorem m_X9_both : monoE e_X9_both := monoE_of (cons_all (p_X9_within) (cons_all (p_X1_sendAll) nil_all))
theorem p_X9_both : mono s_X9_both := spc_mono m_X9_both _
theorem k_X9_both (l : Launch) : Con l y_X9_both prog_1_method_22_code 2 (Option.some Jvm.ClassFile.FieldType.int) { frames := 4, cells := 0, slots := 0, locals := 92 } 1 0 s_X9_both := con_of l e_X9_both y_X9_both prog_1_method_22_code 2 (Option.some Jvm.ClassFile.FieldType.int) _ (by decide +kernel) (cons_all (clS (k_X9_within l) f_X9_within ⟨rfl, rfl, Nat.le_of_ble_eq_true rfl, Nat.le_of_ble_eq_true rfl⟩ (mg 258 (by decide +kernel))) (cons_all (clV (k_X1_sendAll l) f_X1_sendAll ⟨rfl, rfl, Nat.le_of_ble_eq_true rfl, Nat.le_of_ble_eq_true rfl⟩ (mg 553 (by decide +kernel))) nil_all)) (Or.inl (by decide +kernel))
theorem f_X9_both : calV y_X9_both prog_1_method_22_code 2 (Option.some Jvm.ClassFile.FieldType.int) 2 8 := ⟨⟨mem_g (i := 552) (by decide +kernel) rfl, mg 25 (by decide +kernel)⟩, by decide +kernel, by decide +kernel, by decide, mg 550 (by decide +kernel), mg 551 (by decide +kernel), _, rfl, rfl⟩
def y_X9_rests : MethodName := ⟨"ActsPaid", "rests", "(I)I"⟩
def t_X9_rests : List (Nat × Ao) := [
  (0, (9, 0, 0, 0, 0, 0, [])),
  (1, (55, 0, 0, 53, 263, 233, [])),
  (4, (9, 0, 0, 0, 0, 0, [])),
  (5, (62, 0, 0, 157, 0, 0, [])),
  (8, (7, 0, 0, 1, 0, 0, [])),
  (9, (62, 0, 0, 212, 0, 0, [])),
  (12, (64, 0, 0, 0, 0, 0, []))]
def e_X9_rests : Ev := (t_X9_rests, [(157, (1, 3, 7, 9, s_X9_tried)), (212, (3, 1, 0, 2, s_X1_restingBases))], 1, 0, false, 0, fun _ => 0)
def s_X9_rests : Sp := spc e_X9_rests 2
theorem m_X9_rests : monoE e_X9_rests := monoE_of (cons_all (p_X9_tried) (cons_all (p_X1_restingBases) nil_all))
theorem p_X9_rests : mono s_X9_rests := spc_mono m_X9_rests _
theorem k_X9_rests (l : Launch) : Con l y_X9_rests prog_1_method_23_code 2 (Option.some Jvm.ClassFile.FieldType.int) { frames := 5, cells := 0, slots := 0, locals := 116 } 1 0 s_X9_rests := con_of l e_X9_rests y_X9_rests prog_1_method_23_code 2 (Option.some Jvm.ClassFile.FieldType.int) _ (by decide +kernel) (cons_all (clV (k_X9_tried l) f_X9_tried ⟨rfl, rfl, Nat.le_of_ble_eq_true rfl, Nat.le_of_ble_eq_true rfl⟩ (mg 415 (by decide +kernel))) (cons_all (clV (k_X1_restingBases l) f_X1_restingBases ⟨rfl, rfl, Nat.le_of_ble_eq_true rfl, Nat.le_of_ble_eq_true rfl⟩ (mg 564 (by decide +kernel))) nil_all)) (Or.inl (by decide +kernel))
theorem f_X9_rests : calV y_X9_rests prog_1_method_23_code 2 (Option.some Jvm.ClassFile.FieldType.int) 2 8 := ⟨⟨mem_g (i := 563) (by decide +kernel) rfl, mg 25 (by decide +kernel)⟩, by decide +kernel, by decide +kernel, by decide, mg 561 (by decide +kernel), mg 562 (by decide +kernel), _, rfl, rfl⟩
def y_X9_seen : MethodName := ⟨"ActsPaid", "seen", "(III)I"⟩
def t_X9_seen : List (Nat × Ao) := [
  (0, (9, 0, 0, 0, 0, 0, [])),
  (1, (55, 0, 0, 19, 257, 227, [])),
  (4, (7, 0, 0, 1, 0, 0, [])),
  (5, (62, 0, 0, 118, 0, 0, [])),
  (8, (42, 0, 0, 13, 0, 0, [])),
  (11, (0, (-1), 0, 0, 0, 0, [])),
  (12, (64, 0, 0, 0, 0, 0, [])),
  (13, (7, 0, 0, 2, 0, 0, [])),
  (14, (0, 0, 0, 0, 0, 0, [])),
  (15, (9, 0, 0, 0, 0, 0, [])),
  (16, (55, 0, 0, 19, 257, 227, [])),
  (19, (55, 0, 0, 68, 224, 89, [])),
  (22, (63, 0, 0, 64, 0, 0, [])),
  (25, (41, 0, 0, 38, 0, 0, [])),
  (28, (7, 0, 0, 3, 0, 0, [])),
  (29, (0, 0, 0, 0, 0, 0, [])),
  (30, (1, 30, 0, 0, 0, 0, [])),
  (32, (63, 0, 0, 64, 0, 0, [])),
  (35, (42, 0, 0, 41, 0, 0, [])),
  (38, (1, (-2), 0, 0, 0, 0, [])),
  (40, (64, 0, 0, 0, 0, 0, [])),
  (41, (9, 0, 0, 0, 0, 0, [])),
  (42, (55, 0, 0, 19, 257, 227, [])),
  (45, (55, 0, 0, 215, 235, 122, [])),
  (48, (7, 0, 0, 1, 0, 0, [])),
  (49, (7, 0, 0, 2, 0, 0, [])),
  (50, (7, 0, 0, 3, 0, 0, [])),
  (51, (62, 0, 0, 219, 0, 0, [])),
  (54, (41, 0, 0, 70, 0, 0, [])),
  (57, (9, 0, 0, 0, 0, 0, [])),
  (58, (55, 0, 0, 19, 257, 227, [])),
  (61, (55, 0, 0, 215, 235, 122, [])),
  (64, (55, 0, 0, 223, 192, 75, [])),
  (67, (40, 0, 0, 72, 0, 0, [])),
  (70, (1, (-4), 0, 0, 0, 0, [])),
  (72, (64, 0, 0, 0, 0, 0, []))]
def e_X9_seen : Ev := (t_X9_seen, [(64, (3, 1, 0, 0, s_X9_within)), (118, (2, 1, 0, 8, s_X8_comes)), (219, (4, 1, 0, 7, s_X7_add))], 1, 0, false, 0, fun _ => 0)
def s_X9_seen : Sp := spc e_X9_seen 4
theorem m_X9_seen : monoE e_X9_seen := monoE_of (cons_all (p_X9_within) (cons_all (p_X8_comes) (cons_all (p_X7_add) nil_all)))
theorem p_X9_seen : mono s_X9_seen := spc_mono m_X9_seen _
theorem k_X9_seen (l : Launch) : Con l y_X9_seen prog_1_method_24_code 4 (Option.some Jvm.ClassFile.FieldType.int) { frames := 2, cells := 0, slots := 0, locals := 45 } 1 0 s_X9_seen := con_of l e_X9_seen y_X9_seen prog_1_method_24_code 4 (Option.some Jvm.ClassFile.FieldType.int) _ (by decide +kernel) (cons_all (clS (k_X9_within l) f_X9_within ⟨rfl, rfl, Nat.le_of_ble_eq_true rfl, Nat.le_of_ble_eq_true rfl⟩ (mg 258 (by decide +kernel))) (cons_all (clV (k_X8_comes l) f_X8_comes ⟨rfl, rfl, Nat.le_of_ble_eq_true rfl, Nat.le_of_ble_eq_true rfl⟩ (mg 348 (by decide +kernel))) (cons_all (clV (k_X7_add l) f_X7_add ⟨rfl, rfl, Nat.le_of_ble_eq_true rfl, Nat.le_of_ble_eq_true rfl⟩ (mg 578 (by decide +kernel))) nil_all))) (Or.inl (by decide +kernel))
theorem f_X9_seen : calV y_X9_seen prog_1_method_24_code 4 (Option.some Jvm.ClassFile.FieldType.int) 4 8 := ⟨⟨mem_g (i := 577) (by decide +kernel) rfl, mg 25 (by decide +kernel)⟩, by decide +kernel, by decide +kernel, by decide, mg 575 (by decide +kernel), mg 576 (by decide +kernel), _, rfl, rfl⟩
def y_X9_forget : MethodName := ⟨"ActsPaid", "forget", "()I"⟩
def t_X9_forget : List (Nat × Ao) := [
  (0, (9, 0, 0, 0, 0, 0, [])),
  (1, (55, 0, 0, 19, 257, 227, [])),
  (4, (55, 0, 0, 215, 235, 122, [])),
  (7, (55, 0, 0, 223, 192, 75, [])),
  (10, (13, 0, 0, 1, 0, 0, [])),
  (11, (9, 0, 0, 0, 0, 0, [])),
  (12, (55, 0, 0, 19, 257, 227, [])),
  (15, (55, 0, 0, 215, 235, 122, [])),
  (18, (0, 0, 0, 0, 0, 0, [])),
  (19, (56, 0, 0, 223, 192, 75, [])),
  (22, (7, 0, 0, 1, 0, 0, [])),
  (23, (64, 0, 0, 0, 0, 0, []))]
def e_X9_forget : Ev := (t_X9_forget, [], 1, 0, false, 0, fun _ => 0)
def s_X9_forget : Sp := spc e_X9_forget 2
theorem m_X9_forget : monoE e_X9_forget := monoE_of nil_all
theorem p_X9_forget : mono s_X9_forget := spc_mono m_X9_forget _
theorem k_X9_forget (l : Launch) : Con l y_X9_forget prog_1_method_25_code 2 (Option.some Jvm.ClassFile.FieldType.int) { frames := 0, cells := 0, slots := 0, locals := 0 } 1 0 s_X9_forget := con_of l e_X9_forget y_X9_forget prog_1_method_25_code 2 (Option.some Jvm.ClassFile.FieldType.int) _ (by decide +kernel) nil_all (Or.inl (by decide +kernel))
theorem f_X9_forget : calV y_X9_forget prog_1_method_25_code 2 (Option.some Jvm.ClassFile.FieldType.int) 1 8 := ⟨⟨mem_g (i := 586) (by decide +kernel) rfl, mg 25 (by decide +kernel)⟩, by decide +kernel, by decide +kernel, by decide, mg 584 (by decide +kernel), mg 585 (by decide +kernel), _, rfl, rfl⟩
def y_X9_fits : MethodName := ⟨"ActsPaid", "fits", "(III)I"⟩
def t_X9_fits : List (Nat × Ao) := [
  (0, (9, 0, 0, 0, 0, 0, [])),
  (1, (55, 0, 0, 19, 257, 227, [])),
  (4, (7, 0, 0, 1, 0, 0, [])),
  (5, (62, 0, 0, 118, 0, 0, [])),
  (8, (41, 0, 0, 22, 0, 0, [])),
  (11, (9, 0, 0, 0, 0, 0, [])),
  (12, (55, 0, 0, 19, 257, 227, [])),
  (15, (7, 0, 0, 2, 0, 0, [])),
  (16, (62, 0, 0, 121, 0, 0, [])),
  (19, (42, 0, 0, 24, 0, 0, [])),
  (22, (0, (-1), 0, 0, 0, 0, [])),
  (23, (64, 0, 0, 0, 0, 0, [])),
  (24, (7, 0, 0, 3, 0, 0, [])),
  (25, (0, 0, 0, 0, 0, 0, [])),
  (26, (0, 2, 0, 0, 0, 0, [])),
  (27, (63, 0, 0, 64, 0, 0, [])),
  (30, (42, 0, 0, 36, 0, 0, [])),
  (33, (1, (-2), 0, 0, 0, 0, [])),
  (35, (64, 0, 0, 0, 0, 0, [])),
  (36, (9, 0, 0, 0, 0, 0, [])),
  (37, (62, 0, 0, 157, 0, 0, [])),
  (40, (7, 0, 0, 1, 0, 0, [])),
  (41, (7, 0, 0, 2, 0, 0, [])),
  (42, (7, 0, 0, 3, 0, 0, [])),
  (43, (63, 0, 0, 224, 0, 0, [])),
  (46, (64, 0, 0, 0, 0, 0, []))]
def e_X9_fits : Ev := (t_X9_fits, [(64, (3, 1, 0, 0, s_X9_within)), (118, (2, 1, 0, 8, s_X8_comes)), (121, (2, 1, 0, 8, s_X8_hasAct)), (157, (1, 3, 7, 9, s_X9_tried)), (224, (4, 1, 0, 0, s_X7_worthsThatFit))], 1, 0, false, 0, fun _ => 0)
def s_X9_fits : Sp := spc e_X9_fits 4
theorem m_X9_fits : monoE e_X9_fits := monoE_of (cons_all (p_X9_within) (cons_all (p_X8_comes) (cons_all (p_X8_hasAct) (cons_all (p_X9_tried) (cons_all (p_X7_worthsThatFit) nil_all)))))
theorem p_X9_fits : mono s_X9_fits := spc_mono m_X9_fits _
theorem k_X9_fits (l : Launch) : Con l y_X9_fits prog_1_method_26_code 4 (Option.some Jvm.ClassFile.FieldType.int) { frames := 5, cells := 0, slots := 0, locals := 119 } 1 0 s_X9_fits := con_of l e_X9_fits y_X9_fits prog_1_method_26_code 4 (Option.some Jvm.ClassFile.FieldType.int) _ (by decide +kernel) (cons_all (clS (k_X9_within l) f_X9_within ⟨rfl, rfl, Nat.le_of_ble_eq_true rfl, Nat.le_of_ble_eq_true rfl⟩ (mg 258 (by decide +kernel))) (cons_all (clV (k_X8_comes l) f_X8_comes ⟨rfl, rfl, Nat.le_of_ble_eq_true rfl, Nat.le_of_ble_eq_true rfl⟩ (mg 348 (by decide +kernel))) (cons_all (clV (k_X8_hasAct l) f_X8_hasAct ⟨rfl, rfl, Nat.le_of_ble_eq_true rfl, Nat.le_of_ble_eq_true rfl⟩ (mg 357 (by decide +kernel))) (cons_all (clV (k_X9_tried l) f_X9_tried ⟨rfl, rfl, Nat.le_of_ble_eq_true rfl, Nat.le_of_ble_eq_true rfl⟩ (mg 415 (by decide +kernel))) (cons_all (clS (k_X7_worthsThatFit l) f_X7_worthsThatFit ⟨rfl, rfl, Nat.le_of_ble_eq_true rfl, Nat.le_of_ble_eq_true rfl⟩ (mg 591 (by decide +kernel))) nil_all))))) (Or.inl (by decide +kernel))
theorem f_X9_fits : calV y_X9_fits prog_1_method_26_code 4 (Option.some Jvm.ClassFile.FieldType.int) 4 8 := ⟨⟨mem_g (i := 590) (by decide +kernel) rfl, mg 25 (by decide +kernel)⟩, by decide +kernel, by decide +kernel, by decide, mg 588 (by decide +kernel), mg 589 (by decide +kernel), _, rfl, rfl⟩
def y_X9_odds : MethodName := ⟨"ActsPaid", "odds", "(III)J"⟩
def t_X9_odds : List (Nat × Ao) := [
  (0, (7, 0, 0, 1, 0, 0, [])),
  (1, (0, 0, 0, 0, 0, 0, [])),
  (2, (2, 9999, 0, 0, 0, 0, [])),
  (5, (63, 0, 0, 64, 0, 0, [])),
  (8, (41, 0, 0, 30, 0, 0, [])),
  (11, (7, 0, 0, 2, 0, 0, [])),
  (12, (0, 0, 0, 0, 0, 0, [])),
  (13, (1, 10, 0, 0, 0, 0, [])),
  (15, (63, 0, 0, 64, 0, 0, [])),
  (18, (41, 0, 0, 30, 0, 0, [])),
  (21, (7, 0, 0, 3, 0, 0, [])),
  (22, (0, 0, 0, 0, 0, 0, [])),
  (23, (0, 1, 0, 0, 0, 0, [])),
  (24, (63, 0, 0, 64, 0, 0, [])),
  (27, (42, 0, 0, 34, 0, 0, [])),
  (30, (6, 0, (-1000000000000000002), 228, 0, 605, [])),
  (33, (65, 0, 0, 0, 0, 0, [])),
  (34, (9, 0, 0, 0, 0, 0, [])),
  (35, (55, 0, 0, 60, 264, 234, [])),
  (38, (9, 0, 0, 0, 0, 0, [])),
  (39, (55, 0, 0, 19, 257, 227, [])),
  (42, (7, 0, 0, 1, 0, 0, [])),
  (43, (7, 0, 0, 2, 0, 0, [])),
  (44, (7, 0, 0, 3, 0, 0, [])),
  (45, (62, 0, 0, 230, 0, 0, [])),
  (48, (65, 0, 0, 0, 0, 0, []))]
def e_X9_odds : Ev := (t_X9_odds, [(64, (3, 1, 0, 0, s_X9_within)), (230, (5, 2, 0, 1, s_X0_comesIn))], 2, 0, false, 0, fun _ => 0)
def s_X9_odds : Sp := spc e_X9_odds 4
theorem m_X9_odds : monoE e_X9_odds := monoE_of (cons_all (p_X9_within) (cons_all (p_X0_comesIn) nil_all))
theorem p_X9_odds : mono s_X9_odds := spc_mono m_X9_odds _
theorem k_X9_odds (l : Launch) : Con l y_X9_odds prog_1_method_27_code 4 (Option.some Jvm.ClassFile.FieldType.long) { frames := 6, cells := 0, slots := 0, locals := 144 } 2 0 s_X9_odds := con_of l e_X9_odds y_X9_odds prog_1_method_27_code 4 (Option.some Jvm.ClassFile.FieldType.long) _ (by decide +kernel) (cons_all (clS (k_X9_within l) f_X9_within ⟨rfl, rfl, Nat.le_of_ble_eq_true rfl, Nat.le_of_ble_eq_true rfl⟩ (mg 258 (by decide +kernel))) (cons_all (clV (k_X0_comesIn l) f_X0_comesIn ⟨rfl, rfl, Nat.le_of_ble_eq_true rfl, Nat.le_of_ble_eq_true rfl⟩ (mg 606 (by decide +kernel))) nil_all)) (Or.inl (by decide +kernel))
theorem f_X9_odds : calV y_X9_odds prog_1_method_27_code 4 (Option.some Jvm.ClassFile.FieldType.long) 4 8 := ⟨⟨mem_g (i := 604) (by decide +kernel) rfl, mg 25 (by decide +kernel)⟩, by decide +kernel, by decide +kernel, by decide, mg 602 (by decide +kernel), mg 603 (by decide +kernel), _, rfl, rfl⟩
def y_X9_year : MethodName := ⟨"ActsPaid", "year", "(III)I"⟩
def t_X9_year : List (Nat × Ao) := [
  (0, (7, 0, 0, 1, 0, 0, [])),
  (1, (0, 0, 0, 0, 0, 0, [])),
  (2, (2, 9999, 0, 0, 0, 0, [])),
  (5, (63, 0, 0, 64, 0, 0, [])),
  (8, (41, 0, 0, 30, 0, 0, [])),
  (11, (7, 0, 0, 2, 0, 0, [])),
  (12, (0, 1, 0, 0, 0, 0, [])),
  (13, (1, 99, 0, 0, 0, 0, [])),
  (15, (63, 0, 0, 64, 0, 0, [])),
  (18, (41, 0, 0, 30, 0, 0, [])),
  (21, (7, 0, 0, 3, 0, 0, [])),
  (22, (0, 0, 0, 0, 0, 0, [])),
  (23, (0, 1, 0, 0, 0, 0, [])),
  (24, (63, 0, 0, 64, 0, 0, [])),
  (27, (42, 0, 0, 33, 0, 0, [])),
  (30, (1, (-2), 0, 0, 0, 0, [])),
  (32, (64, 0, 0, 0, 0, 0, [])),
  (33, (9, 0, 0, 0, 0, 0, [])),
  (34, (55, 0, 0, 60, 264, 234, [])),
  (37, (9, 0, 0, 0, 0, 0, [])),
  (38, (55, 0, 0, 19, 257, 227, [])),
  (41, (7, 0, 0, 1, 0, 0, [])),
  (42, (7, 0, 0, 2, 0, 0, [])),
  (43, (7, 0, 0, 3, 0, 0, [])),
  (44, (62, 0, 0, 234, 0, 0, [])),
  (47, (64, 0, 0, 0, 0, 0, []))]
def e_X9_year : Ev := (t_X9_year, [(64, (3, 1, 0, 0, s_X9_within)), (234, (5, 1, 0, 1, s_X0_evenings))], 1, 0, false, 0, fun _ => 0)
def s_X9_year : Sp := spc e_X9_year 4
theorem m_X9_year : monoE e_X9_year := monoE_of (cons_all (p_X9_within) (cons_all (p_X0_evenings) nil_all))
theorem p_X9_year : mono s_X9_year := spc_mono m_X9_year _
theorem k_X9_year (l : Launch) : Con l y_X9_year prog_1_method_28_code 4 (Option.some Jvm.ClassFile.FieldType.int) { frames := 6, cells := 0, slots := 0, locals := 141 } 1 0 s_X9_year := con_of l e_X9_year y_X9_year prog_1_method_28_code 4 (Option.some Jvm.ClassFile.FieldType.int) _ (by decide +kernel) (cons_all (clS (k_X9_within l) f_X9_within ⟨rfl, rfl, Nat.le_of_ble_eq_true rfl, Nat.le_of_ble_eq_true rfl⟩ (mg 258 (by decide +kernel))) (cons_all (clV (k_X0_evenings l) f_X0_evenings ⟨rfl, rfl, Nat.le_of_ble_eq_true rfl, Nat.le_of_ble_eq_true rfl⟩ (mg 634 (by decide +kernel))) nil_all)) (Or.inl (by decide +kernel))
theorem f_X9_year : calV y_X9_year prog_1_method_28_code 4 (Option.some Jvm.ClassFile.FieldType.int) 4 8 := ⟨⟨mem_g (i := 633) (by decide +kernel) rfl, mg 25 (by decide +kernel)⟩, by decide +kernel, by decide +kernel, by decide, mg 631 (by decide +kernel), mg 632 (by decide +kernel), _, rfl, rfl⟩
def y_X9_imageOf : MethodName := ⟨"ActsPaid", "imageOf", "(I)LActsPaid$Image;"⟩
def t_X9_imageOf : List (Nat × Ao) := [
  (0, (7, 0, 0, 1, 0, 0, [])),
  (1, (42, 0, 0, 11, 0, 0, [])),
  (4, (9, 0, 0, 0, 0, 0, [])),
  (5, (55, 0, 0, 29, 259, 229, [])),
  (8, (40, 0, 0, 15, 0, 0, [])),
  (11, (9, 0, 0, 0, 0, 0, [])),
  (12, (55, 0, 0, 33, 260, 230, [])),
  (15, (67, 0, 0, 0, 0, 0, []))]
def e_X9_imageOf : Ev := (t_X9_imageOf, [], 3, 2, false, 0, fun _ => 0)
def s_X9_imageOf : Sp := spc e_X9_imageOf 2
theorem m_X9_imageOf : monoE e_X9_imageOf := monoE_of nil_all
theorem p_X9_imageOf : mono s_X9_imageOf := spc_mono m_X9_imageOf _
theorem k_X9_imageOf (l : Launch) : Con l y_X9_imageOf prog_1_method_32_code 2 (Option.some (Jvm.ClassFile.FieldType.object "ActsPaid$Image")) { frames := 0, cells := 0, slots := 0, locals := 0 } 3 2 s_X9_imageOf := con_of l e_X9_imageOf y_X9_imageOf prog_1_method_32_code 2 (Option.some (Jvm.ClassFile.FieldType.object "ActsPaid$Image")) _ (by decide +kernel) nil_all (Or.inl (by decide +kernel))
theorem f_X9_imageOf : calV y_X9_imageOf prog_1_method_32_code 2 (Option.some (Jvm.ClassFile.FieldType.object "ActsPaid$Image")) 2 8 := ⟨⟨mem_g (i := 649) (by decide +kernel) rfl, mg 25 (by decide +kernel)⟩, by decide +kernel, by decide +kernel, by decide, mg 648 (by decide +kernel), mg 1 (by decide +kernel), _, rfl, rfl⟩
def y_X9_image : MethodName := ⟨"ActsPaid", "image", "(I)I"⟩
def t_X9_image : List (Nat × Ao) := [
  (0, (7, 0, 0, 1, 0, 0, [])),
  (1, (0, 0, 0, 0, 0, 0, [])),
  (2, (0, 1, 0, 0, 0, 0, [])),
  (3, (63, 0, 0, 64, 0, 0, [])),
  (6, (42, 0, 0, 12, 0, 0, [])),
  (9, (1, (-2), 0, 0, 0, 0, [])),
  (11, (64, 0, 0, 0, 0, 0, [])),
  (12, (9, 0, 0, 0, 0, 0, [])),
  (13, (7, 0, 0, 1, 0, 0, [])),
  (14, (62, 0, 0, 237, 0, 0, [])),
  (17, (15, 0, 0, 2, 0, 0, [])),
  (18, (9, 0, 0, 2, 0, 0, [])),
  (19, (55, 0, 0, 241, 64, 157, [])),
  (22, (9, 0, 0, 0, 0, 0, [])),
  (23, (55, 0, 0, 19, 257, 227, [])),
  (26, (62, 0, 0, 244, 0, 0, [])),
  (29, (9, 0, 0, 2, 0, 0, [])),
  (30, (0, 1, 0, 0, 0, 0, [])),
  (31, (56, 0, 0, 247, 65, 158, [])),
  (34, (0, 1, 0, 0, 0, 0, [])),
  (35, (64, 0, 0, 0, 0, 0, []))]
def e_X9_image : Ev := (t_X9_image, [(64, (3, 1, 0, 0, s_X9_within)), (237, (2, 3, 2, 9, s_X9_imageOf)), (244, (2, 0, 0, 8, s_X8_copyFrom))], 1, 0, false, 0, fun _ => 0)
def s_X9_image : Sp := spc e_X9_image 3
theorem m_X9_image : monoE e_X9_image := monoE_of (cons_all (p_X9_within) (cons_all (p_X9_imageOf) (cons_all (p_X8_copyFrom) nil_all)))
theorem p_X9_image : mono s_X9_image := spc_mono m_X9_image _
theorem k_X9_image (l : Launch) : Con l y_X9_image prog_1_method_29_code 3 (Option.some Jvm.ClassFile.FieldType.int) { frames := 3, cells := 0, slots := 0, locals := 64 } 1 0 s_X9_image := con_of l e_X9_image y_X9_image prog_1_method_29_code 3 (Option.some Jvm.ClassFile.FieldType.int) _ (by decide +kernel) (cons_all (clS (k_X9_within l) f_X9_within ⟨rfl, rfl, Nat.le_of_ble_eq_true rfl, Nat.le_of_ble_eq_true rfl⟩ (mg 258 (by decide +kernel))) (cons_all (clV (k_X9_imageOf l) f_X9_imageOf ⟨rfl, rfl, Nat.le_of_ble_eq_true rfl, Nat.le_of_ble_eq_true rfl⟩ (mg 646 (by decide +kernel))) (cons_all (clV (k_X8_copyFrom l) f_X8_copyFrom ⟨rfl, rfl, Nat.le_of_ble_eq_true rfl, Nat.le_of_ble_eq_true rfl⟩ (mg 419 (by decide +kernel))) nil_all))) (Or.inl (by decide +kernel))
theorem f_X9_image : calV y_X9_image prog_1_method_29_code 3 (Option.some Jvm.ClassFile.FieldType.int) 2 8 := ⟨⟨mem_g (i := 645) (by decide +kernel) rfl, mg 25 (by decide +kernel)⟩, by decide +kernel, by decide +kernel, by decide, mg 643 (by decide +kernel), mg 644 (by decide +kernel), _, rfl, rfl⟩
def y_X9_restore : MethodName := ⟨"ActsPaid", "restore", "(I)I"⟩
def t_X9_restore : List (Nat × Ao) := [
  (0, (7, 0, 0, 1, 0, 0, [])),
  (1, (0, 0, 0, 0, 0, 0, [])),
  (2, (0, 1, 0, 0, 0, 0, [])),
  (3, (63, 0, 0, 64, 0, 0, [])),
  (6, (42, 0, 0, 12, 0, 0, [])),
  (9, (1, (-2), 0, 0, 0, 0, [])),
  (11, (64, 0, 0, 0, 0, 0, [])),
  (12, (9, 0, 0, 0, 0, 0, [])),
  (13, (7, 0, 0, 1, 0, 0, [])),
  (14, (62, 0, 0, 237, 0, 0, [])),
  (17, (15, 0, 0, 2, 0, 0, [])),
  (18, (9, 0, 0, 2, 0, 0, [])),
  (19, (55, 0, 0, 247, 65, 158, [])),
  (22, (42, 0, 0, 28, 0, 0, [])),
  (25, (1, (-3), 0, 0, 0, 0, [])),
  (27, (64, 0, 0, 0, 0, 0, [])),
  (28, (9, 0, 0, 0, 0, 0, [])),
  (29, (55, 0, 0, 19, 257, 227, [])),
  (32, (9, 0, 0, 2, 0, 0, [])),
  (33, (55, 0, 0, 241, 64, 157, [])),
  (36, (62, 0, 0, 244, 0, 0, [])),
  (39, (0, 1, 0, 0, 0, 0, [])),
  (40, (64, 0, 0, 0, 0, 0, []))]
def e_X9_restore : Ev := (t_X9_restore, [(64, (3, 1, 0, 0, s_X9_within)), (237, (2, 3, 2, 9, s_X9_imageOf)), (244, (2, 0, 0, 8, s_X8_copyFrom))], 1, 0, false, 0, fun _ => 0)
def s_X9_restore : Sp := spc e_X9_restore 3
theorem m_X9_restore : monoE e_X9_restore := monoE_of (cons_all (p_X9_within) (cons_all (p_X9_imageOf) (cons_all (p_X8_copyFrom) nil_all)))
theorem p_X9_restore : mono s_X9_restore := spc_mono m_X9_restore _
theorem k_X9_restore (l : Launch) : Con l y_X9_restore prog_1_method_30_code 3 (Option.some Jvm.ClassFile.FieldType.int) { frames := 3, cells := 0, slots := 0, locals := 64 } 1 0 s_X9_restore := con_of l e_X9_restore y_X9_restore prog_1_method_30_code 3 (Option.some Jvm.ClassFile.FieldType.int) _ (by decide +kernel) (cons_all (clS (k_X9_within l) f_X9_within ⟨rfl, rfl, Nat.le_of_ble_eq_true rfl, Nat.le_of_ble_eq_true rfl⟩ (mg 258 (by decide +kernel))) (cons_all (clV (k_X9_imageOf l) f_X9_imageOf ⟨rfl, rfl, Nat.le_of_ble_eq_true rfl, Nat.le_of_ble_eq_true rfl⟩ (mg 646 (by decide +kernel))) (cons_all (clV (k_X8_copyFrom l) f_X8_copyFrom ⟨rfl, rfl, Nat.le_of_ble_eq_true rfl, Nat.le_of_ble_eq_true rfl⟩ (mg 419 (by decide +kernel))) nil_all))) (Or.inl (by decide +kernel))
theorem f_X9_restore : calV y_X9_restore prog_1_method_30_code 3 (Option.some Jvm.ClassFile.FieldType.int) 2 8 := ⟨⟨mem_g (i := 653) (by decide +kernel) rfl, mg 25 (by decide +kernel)⟩, by decide +kernel, by decide +kernel, by decide, mg 651 (by decide +kernel), mg 652 (by decide +kernel), _, rfl, rfl⟩
def y_X9_told : MethodName := ⟨"ActsPaid", "told", "(I)I"⟩
def t_X9_told : List (Nat × Ao) := [
  (0, (7, 0, 0, 1, 0, 0, [])),
  (1, (1, 10, 0, 0, 0, 0, [])),
  (3, (1, 9, 0, 0, 0, 0, [])),
  (5, (9, 0, 0, 0, 0, 0, [])),
  (6, (55, 0, 0, 19, 257, 227, [])),
  (9, (55, 0, 0, 68, 224, 89, [])),
  (12, (19, 0, 0, 0, 0, 0, [])),
  (13, (63, 0, 0, 64, 0, 0, [])),
  (16, (41, 0, 0, 34, 0, 0, [])),
  (19, (9, 0, 0, 0, 0, 0, [])),
  (20, (55, 0, 0, 19, 257, 227, [])),
  (23, (55, 0, 0, 128, 230, 112, [])),
  (26, (7, 0, 0, 1, 0, 0, [])),
  (27, (1, 10, 0, 0, 0, 0, [])),
  (29, (20, 0, 0, 0, 0, 0, [])),
  (30, (63, 0, 0, 188, 0, 0, [])),
  (33, (64, 0, 0, 0, 0, 0, [])),
  (34, (7, 0, 0, 1, 0, 0, [])),
  (35, (1, 20, 0, 0, 0, 0, [])),
  (37, (1, 19, 0, 0, 0, 0, [])),
  (39, (9, 0, 0, 0, 0, 0, [])),
  (40, (55, 0, 0, 19, 257, 227, [])),
  (43, (55, 0, 0, 68, 224, 89, [])),
  (46, (19, 0, 0, 0, 0, 0, [])),
  (47, (63, 0, 0, 64, 0, 0, [])),
  (50, (41, 0, 0, 68, 0, 0, [])),
  (53, (9, 0, 0, 0, 0, 0, [])),
  (54, (55, 0, 0, 19, 257, 227, [])),
  (57, (55, 0, 0, 185, 232, 116, [])),
  (60, (7, 0, 0, 1, 0, 0, [])),
  (61, (1, 20, 0, 0, 0, 0, [])),
  (63, (20, 0, 0, 0, 0, 0, [])),
  (64, (63, 0, 0, 188, 0, 0, [])),
  (67, (64, 0, 0, 0, 0, 0, [])),
  (68, (7, 0, 0, 1, 0, 0, [])),
  (69, (68, 0, 0, 183, 0, 0, [(0, 116), (1, 124), (2, 132), (3, 140), (4, 148), (5, 156), (6, 164), (7, 172)])),
  (116, (9, 0, 0, 0, 0, 0, [])),
  (117, (55, 0, 0, 10, 256, 226, [])),
  (120, (55, 0, 0, 91, 97, 54, [])),
  (123, (64, 0, 0, 0, 0, 0, [])),
  (124, (9, 0, 0, 0, 0, 0, [])),
  (125, (55, 0, 0, 19, 257, 227, [])),
  (128, (55, 0, 0, 68, 224, 89, [])),
  (131, (64, 0, 0, 0, 0, 0, [])),
  (132, (9, 0, 0, 0, 0, 0, [])),
  (133, (55, 0, 0, 19, 257, 227, [])),
  (136, (55, 0, 0, 110, 229, 109, [])),
  (139, (64, 0, 0, 0, 0, 0, [])),
  (140, (9, 0, 0, 0, 0, 0, [])),
  (141, (55, 0, 0, 19, 257, 227, [])),
  (144, (55, 0, 0, 144, 225, 96, [])),
  (147, (64, 0, 0, 0, 0, 0, [])),
  (148, (9, 0, 0, 0, 0, 0, [])),
  (149, (55, 0, 0, 19, 257, 227, [])),
  (152, (55, 0, 0, 251, 226, 100, [])),
  (155, (64, 0, 0, 0, 0, 0, [])),
  (156, (9, 0, 0, 0, 0, 0, [])),
  (157, (55, 0, 0, 19, 257, 227, [])),
  (160, (55, 0, 0, 254, 227, 102, [])),
  (163, (64, 0, 0, 0, 0, 0, [])),
  (164, (9, 0, 0, 0, 0, 0, [])),
  (165, (55, 0, 0, 19, 257, 227, [])),
  (168, (55, 0, 0, 257, 228, 105, [])),
  (171, (64, 0, 0, 0, 0, 0, [])),
  (172, (9, 0, 0, 0, 0, 0, [])),
  (173, (55, 0, 0, 19, 257, 227, [])),
  (176, (55, 0, 0, 215, 235, 122, [])),
  (179, (55, 0, 0, 223, 192, 75, [])),
  (182, (64, 0, 0, 0, 0, 0, [])),
  (183, (1, (-2), 0, 0, 0, 0, [])),
  (185, (64, 0, 0, 0, 0, 0, []))]
def e_X9_told : Ev := (t_X9_told, [(64, (3, 1, 0, 0, s_X9_within)), (188, (2, 1, 0, 0, s_X5_at))], 1, 0, false, 0, fun _ => 0)
def s_X9_told : Sp := spc e_X9_told 2
theorem m_X9_told : monoE e_X9_told := monoE_of (cons_all (p_X9_within) (cons_all (p_X5_at) nil_all))
theorem p_X9_told : mono s_X9_told := spc_mono m_X9_told _
theorem k_X9_told (l : Launch) : Con l y_X9_told prog_1_method_31_code 2 (Option.some Jvm.ClassFile.FieldType.int) { frames := 1, cells := 0, slots := 0, locals := 22 } 1 0 s_X9_told := con_of l e_X9_told y_X9_told prog_1_method_31_code 2 (Option.some Jvm.ClassFile.FieldType.int) _ (by decide +kernel) (cons_all (clS (k_X9_within l) f_X9_within ⟨rfl, rfl, Nat.le_of_ble_eq_true rfl, Nat.le_of_ble_eq_true rfl⟩ (mg 258 (by decide +kernel))) (cons_all (clS (k_X5_at l) f_X5_at ⟨rfl, rfl, Nat.le_of_ble_eq_true rfl, Nat.le_of_ble_eq_true rfl⟩ (mg 538 (by decide +kernel))) nil_all)) (Or.inl (by decide +kernel))
theorem f_X9_told : calV y_X9_told prog_1_method_31_code 2 (Option.some Jvm.ClassFile.FieldType.int) 2 8 := ⟨⟨mem_g (i := 657) (by decide +kernel) rfl, mg 25 (by decide +kernel)⟩, by decide +kernel, by decide +kernel, by decide, mg 655 (by decide +kernel), mg 656 (by decide +kernel), _, rfl, rfl⟩
end
section
def y_X10_plain : MethodName := ⟨"ActsPaidModel", "plain", "()V"⟩
def t_X10_plain : List (Nat × Ao) := [
  (0, (9, 0, 0, 0, 0, 0, [])),
  (1, (0, 0, 0, 0, 0, 0, [])),
  (2, (56, 0, 0, 75, 289, 669, [])),
  (5, (9, 0, 0, 0, 0, 0, [])),
  (6, (0, 0, 0, 0, 0, 0, [])),
  (7, (56, 0, 0, 78, 299, 679, [])),
  (10, (0, 0, 0, 0, 0, 0, [])),
  (11, (13, 0, 0, 1, 0, 0, [])),
  (12, (7, 0, 0, 1, 0, 0, [])),
  (13, (1, 6, 0, 0, 0, 0, [])),
  (15, (50, 0, 0, 45, 0, 0, [])),
  (18, (9, 0, 0, 0, 0, 0, [])),
  (19, (55, 0, 0, 26, 295, 675, [])),
  (22, (7, 0, 0, 1, 0, 0, [])),
  (23, (7, 0, 0, 1, 0, 0, [])),
  (24, (58, 0, 0, 0, 0, 0, [])),
  (25, (9, 0, 0, 0, 0, 0, [])),
  (26, (55, 0, 0, 29, 296, 676, [])),
  (29, (7, 0, 0, 1, 0, 0, [])),
  (30, (0, 0, 0, 0, 0, 0, [])),
  (31, (58, 0, 0, 0, 0, 0, [])),
  (32, (9, 0, 0, 0, 0, 0, [])),
  (33, (55, 0, 0, 32, 297, 677, [])),
  (36, (7, 0, 0, 1, 0, 0, [])),
  (37, (0, 0, 0, 0, 0, 0, [])),
  (38, (58, 0, 0, 0, 0, 0, [])),
  (39, (39, 1, 0, 1, 0, 0, [])),
  (42, (40, 0, 0, 12, 0, 0, [])),
  (45, (0, 0, 0, 0, 0, 0, [])),
  (46, (13, 0, 0, 1, 0, 0, [])),
  (47, (7, 0, 0, 1, 0, 0, [])),
  (48, (1, 8, 0, 0, 0, 0, [])),
  (50, (50, 0, 0, 66, 0, 0, [])),
  (53, (9, 0, 0, 0, 0, 0, [])),
  (54, (55, 0, 0, 35, 298, 678, [])),
  (57, (7, 0, 0, 1, 0, 0, [])),
  (58, (0, 0, 0, 0, 0, 0, [])),
  (59, (58, 0, 0, 0, 0, 0, [])),
  (60, (39, 1, 0, 1, 0, 0, [])),
  (63, (40, 0, 0, 47, 0, 0, [])),
  (66, (66, 0, 0, 0, 0, 0, []))]
def e_X10_plain : Ev := (t_X10_plain, [], 0, 0, false, 0, fun _ => 0)
def s_X10_plain : Sp := spc e_X10_plain 2
theorem m_X10_plain : monoE e_X10_plain := monoE_of nil_all
theorem p_X10_plain : mono s_X10_plain := spc_mono m_X10_plain _
theorem k_X10_plain (l : Launch) : Con l y_X10_plain prog_12_method_2_code 2 (Option.none : Option Jvm.ClassFile.FieldType) { frames := 0, cells := 0, slots := 0, locals := 0 } 0 0 s_X10_plain := con_of l e_X10_plain y_X10_plain prog_12_method_2_code 2 (Option.none : Option Jvm.ClassFile.FieldType) _ (by decide +kernel) nil_all (Or.inl (by decide +kernel))
theorem f_X10_plain : calV y_X10_plain prog_12_method_2_code 2 (Option.none : Option Jvm.ClassFile.FieldType) 1 9 := ⟨⟨mem_g (i := 667) (by decide +kernel) rfl, mg 34 (by decide +kernel)⟩, by decide +kernel, by decide +kernel, by decide, mg 666 (by decide +kernel), mg 2 (by decide +kernel), _, rfl, rfl⟩
def y_X10_in : MethodName := ⟨"ActsPaidModel", "in", "(III)Z"⟩
def t_X10_in : List (Nat × Ao) := [
  (0, (7, 0, 0, 0, 0, 0, [])),
  (1, (7, 0, 0, 1, 0, 0, [])),
  (2, (49, 0, 0, 14, 0, 0, [])),
  (5, (7, 0, 0, 0, 0, 0, [])),
  (6, (7, 0, 0, 2, 0, 0, [])),
  (7, (51, 0, 0, 14, 0, 0, [])),
  (10, (0, 1, 0, 0, 0, 0, [])),
  (11, (40, 0, 0, 15, 0, 0, [])),
  (14, (0, 0, 0, 0, 0, 0, [])),
  (15, (64, 0, 0, 0, 0, 0, []))]
def e_X10_in : Ev := (t_X10_in, [], 4, 0, false, 0, fun _ => 0)
def s_X10_in : Sp := spc e_X10_in 3
theorem m_X10_in : monoE e_X10_in := monoE_of nil_all
theorem p_X10_in : mono s_X10_in := spc_mono m_X10_in _
theorem k_X10_in (l : Launch) : Con l y_X10_in prog_12_method_3_code 3 (Option.some Jvm.ClassFile.FieldType.boolean) { frames := 0, cells := 0, slots := 0, locals := 0 } 1 0 s_X10_in := con_of l e_X10_in y_X10_in prog_12_method_3_code 3 (Option.some Jvm.ClassFile.FieldType.boolean) _ (by decide +kernel) nil_all (Or.inl (by decide +kernel))
theorem f_X10_in : calS y_X10_in prog_12_method_3_code 3 (Option.some Jvm.ClassFile.FieldType.boolean) 3 := ⟨⟨mem_g (i := 757) (by decide +kernel) rfl, mg 34 (by decide +kernel)⟩, by decide +kernel, by decide +kernel, mg 756 (by decide +kernel)⟩
def y_X10_has : MethodName := ⟨"ActsPaidModel", "has", "(II)Z"⟩
def t_X10_has : List (Nat × Ao) := [
  (0, (7, 0, 0, 0, 0, 0, [])),
  (1, (7, 0, 0, 1, 0, 0, [])),
  (2, (29, 0, 0, 0, 0, 0, [])),
  (3, (0, 1, 0, 0, 0, 0, [])),
  (4, (25, 0, 0, 0, 0, 0, [])),
  (5, (0, 1, 0, 0, 0, 0, [])),
  (6, (48, 0, 0, 13, 0, 0, [])),
  (9, (0, 1, 0, 0, 0, 0, [])),
  (10, (40, 0, 0, 14, 0, 0, [])),
  (13, (0, 0, 0, 0, 0, 0, [])),
  (14, (64, 0, 0, 0, 0, 0, []))]
def e_X10_has : Ev := (t_X10_has, [], 4, 0, false, 0, fun _ => 0)
def s_X10_has : Sp := spc e_X10_has 2
theorem m_X10_has : monoE e_X10_has := monoE_of nil_all
theorem p_X10_has : mono s_X10_has := spc_mono m_X10_has _
theorem k_X10_has (l : Launch) : Con l y_X10_has prog_12_method_4_code 2 (Option.some Jvm.ClassFile.FieldType.boolean) { frames := 0, cells := 0, slots := 0, locals := 0 } 1 0 s_X10_has := con_of l e_X10_has y_X10_has prog_12_method_4_code 2 (Option.some Jvm.ClassFile.FieldType.boolean) _ (by decide +kernel) nil_all (Or.inl (by decide +kernel))
theorem f_X10_has : calS y_X10_has prog_12_method_4_code 2 (Option.some Jvm.ClassFile.FieldType.boolean) 2 := ⟨⟨mem_g (i := 788) (by decide +kernel) rfl, mg 34 (by decide +kernel)⟩, by decide +kernel, by decide +kernel, mg 787 (by decide +kernel)⟩
def y_X10_bits : MethodName := ⟨"ActsPaidModel", "bits", "(I)I"⟩
def t_X10_bits : List (Nat × Ao) := [
  (0, (0, 0, 0, 0, 0, 0, [])),
  (1, (13, 0, 0, 1, 0, 0, [])),
  (2, (0, 0, 0, 0, 0, 0, [])),
  (3, (13, 0, 0, 2, 0, 0, [])),
  (4, (7, 0, 0, 2, 0, 0, [])),
  (5, (1, 8, 0, 0, 0, 0, [])),
  (7, (50, 0, 0, 24, 0, 0, [])),
  (10, (7, 0, 0, 1, 0, 0, [])),
  (11, (7, 0, 0, 0, 0, 0, [])),
  (12, (7, 0, 0, 2, 0, 0, [])),
  (13, (29, 0, 0, 0, 0, 0, [])),
  (14, (0, 1, 0, 0, 0, 0, [])),
  (15, (25, 0, 0, 0, 0, 0, [])),
  (16, (19, 0, 0, 0, 0, 0, [])),
  (17, (13, 0, 0, 1, 0, 0, [])),
  (18, (39, 1, 0, 2, 0, 0, [])),
  (21, (40, 0, 0, 4, 0, 0, [])),
  (24, (7, 0, 0, 1, 0, 0, [])),
  (25, (64, 0, 0, 0, 0, 0, []))]
def e_X10_bits : Ev := (t_X10_bits, [], 1, 0, false, 0, fun _ => 0)
def s_X10_bits : Sp := spc e_X10_bits 3
theorem m_X10_bits : monoE e_X10_bits := monoE_of nil_all
theorem p_X10_bits : mono s_X10_bits := spc_mono m_X10_bits _
theorem k_X10_bits (l : Launch) : Con l y_X10_bits prog_12_method_5_code 3 (Option.some Jvm.ClassFile.FieldType.int) { frames := 0, cells := 0, slots := 0, locals := 0 } 1 0 s_X10_bits := con_of l e_X10_bits y_X10_bits prog_12_method_5_code 3 (Option.some Jvm.ClassFile.FieldType.int) _ (by decide +kernel) nil_all (Or.inl (by decide +kernel))
theorem f_X10_bits : calS y_X10_bits prog_12_method_5_code 3 (Option.some Jvm.ClassFile.FieldType.int) 1 := ⟨⟨mem_g (i := 795) (by decide +kernel) rfl, mg 34 (by decide +kernel)⟩, by decide +kernel, by decide +kernel, mg 794 (by decide +kernel)⟩
def y_X10_isAct : MethodName := ⟨"ActsPaidModel", "isAct", "(I)Z"⟩
def t_X10_isAct : List (Nat × Ao) := [
  (0, (7, 0, 0, 1, 0, 0, [])),
  (1, (0, 0, 0, 0, 0, 0, [])),
  (2, (9, 0, 0, 0, 0, 0, [])),
  (3, (55, 0, 0, 7, 288, 668, [])),
  (6, (0, 1, 0, 0, 0, 0, [])),
  (7, (20, 0, 0, 0, 0, 0, [])),
  (8, (63, 0, 0, 81, 0, 0, [])),
  (11, (64, 0, 0, 0, 0, 0, []))]
def e_X10_isAct : Ev := (t_X10_isAct, [(81, (3, 1, 0, 0, s_X10_in))], 4, 0, false, 0, fun _ => 0)
def s_X10_isAct : Sp := spc e_X10_isAct 2
theorem m_X10_isAct : monoE e_X10_isAct := monoE_of (cons_all (p_X10_in) nil_all)
theorem p_X10_isAct : mono s_X10_isAct := spc_mono m_X10_isAct _
theorem k_X10_isAct (l : Launch) : Con l y_X10_isAct prog_12_method_6_code 2 (Option.some Jvm.ClassFile.FieldType.boolean) { frames := 1, cells := 0, slots := 0, locals := 22 } 1 0 s_X10_isAct := con_of l e_X10_isAct y_X10_isAct prog_12_method_6_code 2 (Option.some Jvm.ClassFile.FieldType.boolean) _ (by decide +kernel) (cons_all (clS (k_X10_in l) f_X10_in ⟨rfl, rfl, Nat.le_of_ble_eq_true rfl, Nat.le_of_ble_eq_true rfl⟩ (mg 755 (by decide +kernel))) nil_all) (Or.inl (by decide +kernel))
theorem f_X10_isAct : calV y_X10_isAct prog_12_method_6_code 2 (Option.some Jvm.ClassFile.FieldType.boolean) 2 9 := ⟨⟨mem_g (i := 785) (by decide +kernel) rfl, mg 34 (by decide +kernel)⟩, by decide +kernel, by decide +kernel, by decide, mg 784 (by decide +kernel), mg 5 (by decide +kernel), _, rfl, rfl⟩
def y_X10_comes : MethodName := ⟨"ActsPaidModel", "comes", "(I)Z"⟩
def t_X10_comes : List (Nat × Ao) := [
  (0, (7, 0, 0, 1, 0, 0, [])),
  (1, (0, 0, 0, 0, 0, 0, [])),
  (2, (1, 7, 0, 0, 0, 0, [])),
  (4, (63, 0, 0, 81, 0, 0, [])),
  (7, (41, 0, 0, 25, 0, 0, [])),
  (10, (9, 0, 0, 0, 0, 0, [])),
  (11, (55, 0, 0, 75, 289, 669, [])),
  (14, (7, 0, 0, 1, 0, 0, [])),
  (15, (63, 0, 0, 85, 0, 0, [])),
  (18, (41, 0, 0, 25, 0, 0, [])),
  (21, (0, 1, 0, 0, 0, 0, [])),
  (22, (40, 0, 0, 26, 0, 0, [])),
  (25, (0, 0, 0, 0, 0, 0, [])),
  (26, (64, 0, 0, 0, 0, 0, []))]
def e_X10_comes : Ev := (t_X10_comes, [(81, (3, 1, 0, 0, s_X10_in)), (85, (2, 1, 0, 0, s_X10_has))], 4, 0, false, 0, fun _ => 0)
def s_X10_comes : Sp := spc e_X10_comes 2
theorem m_X10_comes : monoE e_X10_comes := monoE_of (cons_all (p_X10_in) (cons_all (p_X10_has) nil_all))
theorem p_X10_comes : mono s_X10_comes := spc_mono m_X10_comes _
theorem k_X10_comes (l : Launch) : Con l y_X10_comes prog_12_method_7_code 2 (Option.some Jvm.ClassFile.FieldType.boolean) { frames := 1, cells := 0, slots := 0, locals := 22 } 1 0 s_X10_comes := con_of l e_X10_comes y_X10_comes prog_12_method_7_code 2 (Option.some Jvm.ClassFile.FieldType.boolean) _ (by decide +kernel) (cons_all (clS (k_X10_in l) f_X10_in ⟨rfl, rfl, Nat.le_of_ble_eq_true rfl, Nat.le_of_ble_eq_true rfl⟩ (mg 755 (by decide +kernel))) (cons_all (clS (k_X10_has l) f_X10_has ⟨rfl, rfl, Nat.le_of_ble_eq_true rfl, Nat.le_of_ble_eq_true rfl⟩ (mg 786 (by decide +kernel))) nil_all)) (Or.inl (by decide +kernel))
theorem f_X10_comes : calV y_X10_comes prog_12_method_7_code 2 (Option.some Jvm.ClassFile.FieldType.boolean) 2 9 := ⟨⟨mem_g (i := 803) (by decide +kernel) rfl, mg 34 (by decide +kernel)⟩, by decide +kernel, by decide +kernel, by decide, mg 802 (by decide +kernel), mg 6 (by decide +kernel), _, rfl, rfl⟩
def y_X10_acts : MethodName := ⟨"ActsPaidModel", "acts", "(I)I"⟩
def t_X10_acts : List (Nat × Ao) := [
  (0, (7, 0, 0, 1, 0, 0, [])),
  (1, (0, 1, 0, 0, 0, 0, [])),
  (2, (1, 6, 0, 0, 0, 0, [])),
  (4, (63, 0, 0, 81, 0, 0, [])),
  (7, (42, 0, 0, 13, 0, 0, [])),
  (10, (1, (-2), 0, 0, 0, 0, [])),
  (12, (64, 0, 0, 0, 0, 0, [])),
  (13, (9, 0, 0, 0, 0, 0, [])),
  (14, (55, 0, 0, 7, 288, 668, [])),
  (17, (13, 0, 0, 2, 0, 0, [])),
  (18, (9, 0, 0, 0, 0, 0, [])),
  (19, (7, 0, 0, 1, 0, 0, [])),
  (20, (56, 0, 0, 7, 288, 668, [])),
  (23, (9, 0, 0, 0, 0, 0, [])),
  (24, (62, 0, 0, 72, 0, 0, [])),
  (27, (7, 0, 0, 2, 0, 0, [])),
  (28, (64, 0, 0, 0, 0, 0, []))]
def e_X10_acts : Ev := (t_X10_acts, [(72, (1, 0, 0, 10, s_X10_plain)), (81, (3, 1, 0, 0, s_X10_in))], 1, 0, false, 0, fun _ => 0)
def s_X10_acts : Sp := spc e_X10_acts 3
theorem m_X10_acts : monoE e_X10_acts := monoE_of (cons_all (p_X10_plain) (cons_all (p_X10_in) nil_all))
theorem p_X10_acts : mono s_X10_acts := spc_mono m_X10_acts _
theorem k_X10_acts (l : Launch) : Con l y_X10_acts prog_12_method_8_code 3 (Option.some Jvm.ClassFile.FieldType.int) { frames := 1, cells := 0, slots := 0, locals := 22 } 1 0 s_X10_acts := con_of l e_X10_acts y_X10_acts prog_12_method_8_code 3 (Option.some Jvm.ClassFile.FieldType.int) _ (by decide +kernel) (cons_all (clV (k_X10_plain l) f_X10_plain ⟨rfl, rfl, Nat.le_of_ble_eq_true rfl, Nat.le_of_ble_eq_true rfl⟩ (mg 664 (by decide +kernel))) (cons_all (clS (k_X10_in l) f_X10_in ⟨rfl, rfl, Nat.le_of_ble_eq_true rfl, Nat.le_of_ble_eq_true rfl⟩ (mg 755 (by decide +kernel))) nil_all)) (Or.inl (by decide +kernel))
theorem f_X10_acts : calV y_X10_acts prog_12_method_8_code 3 (Option.some Jvm.ClassFile.FieldType.int) 2 9 := ⟨⟨mem_g (i := 754) (by decide +kernel) rfl, mg 34 (by decide +kernel)⟩, by decide +kernel, by decide +kernel, by decide, mg 752 (by decide +kernel), mg 753 (by decide +kernel), _, rfl, rfl⟩
def y_X10_set : MethodName := ⟨"ActsPaidModel", "set", "(II)I"⟩
def t_X10_set : List (Nat × Ao) := [
  (0, (7, 0, 0, 1, 0, 0, [])),
  (1, (0, 0, 0, 0, 0, 0, [])),
  (2, (0, 3, 0, 0, 0, 0, [])),
  (3, (63, 0, 0, 81, 0, 0, [])),
  (6, (41, 0, 0, 38, 0, 0, [])),
  (9, (7, 0, 0, 2, 0, 0, [])),
  (10, (0, 0, 0, 0, 0, 0, [])),
  (11, (7, 0, 0, 1, 0, 0, [])),
  (12, (0, 1, 0, 0, 0, 0, [])),
  (13, (48, 0, 0, 21, 0, 0, [])),
  (16, (1, 9, 0, 0, 0, 0, [])),
  (18, (40, 0, 0, 32, 0, 0, [])),
  (21, (7, 0, 0, 1, 0, 0, [])),
  (22, (0, 2, 0, 0, 0, 0, [])),
  (23, (48, 0, 0, 30, 0, 0, [])),
  (26, (0, 1, 0, 0, 0, 0, [])),
  (27, (40, 0, 0, 32, 0, 0, [])),
  (30, (1, 30, 0, 0, 0, 0, [])),
  (32, (63, 0, 0, 81, 0, 0, [])),
  (35, (42, 0, 0, 41, 0, 0, [])),
  (38, (1, (-2), 0, 0, 0, 0, [])),
  (40, (64, 0, 0, 0, 0, 0, [])),
  (41, (7, 0, 0, 1, 0, 0, [])),
  (42, (42, 0, 0, 52, 0, 0, [])),
  (45, (9, 0, 0, 0, 0, 0, [])),
  (46, (55, 0, 0, 13, 290, 670, [])),
  (49, (40, 0, 0, 80, 0, 0, [])),
  (52, (7, 0, 0, 1, 0, 0, [])),
  (53, (0, 1, 0, 0, 0, 0, [])),
  (54, (48, 0, 0, 64, 0, 0, [])),
  (57, (9, 0, 0, 0, 0, 0, [])),
  (58, (55, 0, 0, 16, 291, 671, [])),
  (61, (40, 0, 0, 80, 0, 0, [])),
  (64, (7, 0, 0, 1, 0, 0, [])),
  (65, (0, 2, 0, 0, 0, 0, [])),
  (66, (48, 0, 0, 76, 0, 0, [])),
  (69, (9, 0, 0, 0, 0, 0, [])),
  (70, (55, 0, 0, 89, 292, 672, [])),
  (73, (40, 0, 0, 80, 0, 0, [])),
  (76, (9, 0, 0, 0, 0, 0, [])),
  (77, (55, 0, 0, 19, 293, 673, [])),
  (80, (13, 0, 0, 3, 0, 0, [])),
  (81, (9, 0, 0, 0, 0, 0, [])),
  (82, (7, 0, 0, 1, 0, 0, [])),
  (83, (42, 0, 0, 90, 0, 0, [])),
  (86, (7, 0, 0, 2, 0, 0, [])),
  (87, (40, 0, 0, 94, 0, 0, [])),
  (90, (9, 0, 0, 0, 0, 0, [])),
  (91, (55, 0, 0, 13, 290, 670, [])),
  (94, (56, 0, 0, 13, 290, 670, [])),
  (97, (9, 0, 0, 0, 0, 0, [])),
  (98, (7, 0, 0, 1, 0, 0, [])),
  (99, (0, 1, 0, 0, 0, 0, [])),
  (100, (48, 0, 0, 107, 0, 0, [])),
  (103, (7, 0, 0, 2, 0, 0, [])),
  (104, (40, 0, 0, 111, 0, 0, [])),
  (107, (9, 0, 0, 0, 0, 0, [])),
  (108, (55, 0, 0, 16, 291, 671, [])),
  (111, (56, 0, 0, 16, 291, 671, [])),
  (114, (9, 0, 0, 0, 0, 0, [])),
  (115, (7, 0, 0, 1, 0, 0, [])),
  (116, (0, 2, 0, 0, 0, 0, [])),
  (117, (48, 0, 0, 124, 0, 0, [])),
  (120, (7, 0, 0, 2, 0, 0, [])),
  (121, (40, 0, 0, 128, 0, 0, [])),
  (124, (9, 0, 0, 0, 0, 0, [])),
  (125, (55, 0, 0, 89, 292, 672, [])),
  (128, (56, 0, 0, 89, 292, 672, [])),
  (131, (9, 0, 0, 0, 0, 0, [])),
  (132, (7, 0, 0, 1, 0, 0, [])),
  (133, (0, 3, 0, 0, 0, 0, [])),
  (134, (48, 0, 0, 141, 0, 0, [])),
  (137, (7, 0, 0, 2, 0, 0, [])),
  (138, (40, 0, 0, 145, 0, 0, [])),
  (141, (9, 0, 0, 0, 0, 0, [])),
  (142, (55, 0, 0, 19, 293, 673, [])),
  (145, (56, 0, 0, 19, 293, 673, [])),
  (148, (7, 0, 0, 3, 0, 0, [])),
  (149, (64, 0, 0, 0, 0, 0, []))]
def e_X10_set : Ev := (t_X10_set, [(81, (3, 1, 0, 0, s_X10_in))], 1, 0, false, 0, fun _ => 0)
def s_X10_set : Sp := spc e_X10_set 4
theorem m_X10_set : monoE e_X10_set := monoE_of (cons_all (p_X10_in) nil_all)
theorem p_X10_set : mono s_X10_set := spc_mono m_X10_set _
theorem k_X10_set (l : Launch) : Con l y_X10_set prog_12_method_9_code 4 (Option.some Jvm.ClassFile.FieldType.int) { frames := 1, cells := 0, slots := 0, locals := 22 } 1 0 s_X10_set := con_of l e_X10_set y_X10_set prog_12_method_9_code 4 (Option.some Jvm.ClassFile.FieldType.int) _ (by decide +kernel) (cons_all (clS (k_X10_in l) f_X10_in ⟨rfl, rfl, Nat.le_of_ble_eq_true rfl, Nat.le_of_ble_eq_true rfl⟩ (mg 755 (by decide +kernel))) nil_all) (Or.inl (by decide +kernel))
theorem f_X10_set : calV y_X10_set prog_12_method_9_code 4 (Option.some Jvm.ClassFile.FieldType.int) 3 9 := ⟨⟨mem_g (i := 761) (by decide +kernel) rfl, mg 34 (by decide +kernel)⟩, by decide +kernel, by decide +kernel, by decide, mg 759 (by decide +kernel), mg 760 (by decide +kernel), _, rfl, rfl⟩
def y_X10_say : MethodName := ⟨"ActsPaidModel", "say", "(I)I"⟩
def t_X10_say : List (Nat × Ao) := [
  (0, (7, 0, 0, 1, 0, 0, [])),
  (1, (1, 33, 0, 0, 0, 0, [])),
  (3, (1, 126, 0, 0, 0, 0, [])),
  (5, (63, 0, 0, 81, 0, 0, [])),
  (8, (42, 0, 0, 14, 0, 0, [])),
  (11, (1, (-2), 0, 0, 0, 0, [])),
  (13, (64, 0, 0, 0, 0, 0, [])),
  (14, (9, 0, 0, 0, 0, 0, [])),
  (15, (55, 0, 0, 92, 301, 681, [])),
  (18, (1, 48, 0, 0, 0, 0, [])),
  (20, (48, 0, 0, 26, 0, 0, [])),
  (23, (1, (-4), 0, 0, 0, 0, [])),
  (25, (64, 0, 0, 0, 0, 0, [])),
  (26, (9, 0, 0, 0, 0, 0, [])),
  (27, (55, 0, 0, 41, 302, 682, [])),
  (30, (9, 0, 0, 0, 0, 0, [])),
  (31, (55, 0, 0, 92, 301, 681, [])),
  (34, (7, 0, 0, 1, 0, 0, [])),
  (35, (58, 0, 0, 0, 0, 0, [])),
  (36, (9, 0, 0, 0, 0, 0, [])),
  (37, (37, 0, 0, 0, 0, 0, [])),
  (38, (55, 0, 0, 92, 301, 681, [])),
  (41, (0, 1, 0, 0, 0, 0, [])),
  (42, (19, 0, 0, 0, 0, 0, [])),
  (43, (56, 0, 0, 92, 301, 681, [])),
  (46, (9, 0, 0, 0, 0, 0, [])),
  (47, (55, 0, 0, 92, 301, 681, [])),
  (50, (64, 0, 0, 0, 0, 0, []))]
def e_X10_say : Ev := (t_X10_say, [(81, (3, 1, 0, 0, s_X10_in))], 1, 0, false, 0, fun _ => 0)
def s_X10_say : Sp := spc e_X10_say 2
theorem m_X10_say : monoE e_X10_say := monoE_of (cons_all (p_X10_in) nil_all)
theorem p_X10_say : mono s_X10_say := spc_mono m_X10_say _
theorem k_X10_say (l : Launch) : Con l y_X10_say prog_12_method_10_code 2 (Option.some Jvm.ClassFile.FieldType.int) { frames := 1, cells := 0, slots := 0, locals := 22 } 1 0 s_X10_say := con_of l e_X10_say y_X10_say prog_12_method_10_code 2 (Option.some Jvm.ClassFile.FieldType.int) _ (by decide +kernel) (cons_all (clS (k_X10_in l) f_X10_in ⟨rfl, rfl, Nat.le_of_ble_eq_true rfl, Nat.le_of_ble_eq_true rfl⟩ (mg 755 (by decide +kernel))) nil_all) (Or.inl (by decide +kernel))
theorem f_X10_say : calV y_X10_say prog_12_method_10_code 2 (Option.some Jvm.ClassFile.FieldType.int) 2 9 := ⟨⟨mem_g (i := 765) (by decide +kernel) rfl, mg 34 (by decide +kernel)⟩, by decide +kernel, by decide +kernel, by decide, mg 763 (by decide +kernel), mg 764 (by decide +kernel), _, rfl, rfl⟩
def y_X10_wipe : MethodName := ⟨"ActsPaidModel", "wipe", "()I"⟩
def t_X10_wipe : List (Nat × Ao) := [
  (0, (9, 0, 0, 0, 0, 0, [])),
  (1, (55, 0, 0, 92, 301, 681, [])),
  (4, (13, 0, 0, 1, 0, 0, [])),
  (5, (9, 0, 0, 0, 0, 0, [])),
  (6, (0, 0, 0, 0, 0, 0, [])),
  (7, (56, 0, 0, 92, 301, 681, [])),
  (10, (7, 0, 0, 1, 0, 0, [])),
  (11, (64, 0, 0, 0, 0, 0, []))]
def e_X10_wipe : Ev := (t_X10_wipe, [], 1, 0, false, 0, fun _ => 0)
def s_X10_wipe : Sp := spc e_X10_wipe 2
theorem m_X10_wipe : monoE e_X10_wipe := monoE_of nil_all
theorem p_X10_wipe : mono s_X10_wipe := spc_mono m_X10_wipe _
theorem k_X10_wipe (l : Launch) : Con l y_X10_wipe prog_12_method_11_code 2 (Option.some Jvm.ClassFile.FieldType.int) { frames := 0, cells := 0, slots := 0, locals := 0 } 1 0 s_X10_wipe := con_of l e_X10_wipe y_X10_wipe prog_12_method_11_code 2 (Option.some Jvm.ClassFile.FieldType.int) _ (by decide +kernel) nil_all (Or.inl (by decide +kernel))
theorem f_X10_wipe : calV y_X10_wipe prog_12_method_11_code 2 (Option.some Jvm.ClassFile.FieldType.int) 1 9 := ⟨⟨mem_g (i := 769) (by decide +kernel) rfl, mg 34 (by decide +kernel)⟩, by decide +kernel, by decide +kernel, by decide, mg 767 (by decide +kernel), mg 768 (by decide +kernel), _, rfl, rfl⟩
def y_X10_guestFault : MethodName := ⟨"ActsPaidModel", "guestFault", "()I"⟩
def t_X10_guestFault : List (Nat × Ao) := [
  (0, (0, 0, 0, 0, 0, 0, [])),
  (1, (13, 0, 0, 1, 0, 0, [])),
  (2, (7, 0, 0, 1, 0, 0, [])),
  (3, (9, 0, 0, 0, 0, 0, [])),
  (4, (55, 0, 0, 92, 301, 681, [])),
  (7, (50, 0, 0, 58, 0, 0, [])),
  (10, (7, 0, 0, 1, 0, 0, [])),
  (11, (9, 0, 0, 0, 0, 0, [])),
  (12, (55, 0, 0, 7, 288, 668, [])),
  (15, (47, 0, 0, 50, 0, 0, [])),
  (18, (9, 0, 0, 0, 0, 0, [])),
  (19, (55, 0, 0, 41, 302, 682, [])),
  (22, (7, 0, 0, 1, 0, 0, [])),
  (23, (57, 0, 0, 0, 0, 0, [])),
  (24, (1, 97, 0, 0, 0, 0, [])),
  (26, (1, 122, 0, 0, 0, 0, [])),
  (28, (63, 0, 0, 81, 0, 0, [])),
  (31, (42, 0, 0, 52, 0, 0, [])),
  (34, (9, 0, 0, 0, 0, 0, [])),
  (35, (55, 0, 0, 41, 302, 682, [])),
  (38, (7, 0, 0, 1, 0, 0, [])),
  (39, (57, 0, 0, 0, 0, 0, [])),
  (40, (1, 65, 0, 0, 0, 0, [])),
  (42, (1, 74, 0, 0, 0, 0, [])),
  (44, (63, 0, 0, 81, 0, 0, [])),
  (47, (42, 0, 0, 52, 0, 0, [])),
  (50, (7, 0, 0, 1, 0, 0, [])),
  (51, (64, 0, 0, 0, 0, 0, [])),
  (52, (39, 1, 0, 1, 0, 0, [])),
  (55, (40, 0, 0, 2, 0, 0, [])),
  (58, (9, 0, 0, 0, 0, 0, [])),
  (59, (55, 0, 0, 92, 301, 681, [])),
  (62, (9, 0, 0, 0, 0, 0, [])),
  (63, (55, 0, 0, 7, 288, 668, [])),
  (66, (50, 0, 0, 76, 0, 0, [])),
  (69, (9, 0, 0, 0, 0, 0, [])),
  (70, (55, 0, 0, 92, 301, 681, [])),
  (73, (40, 0, 0, 78, 0, 0, [])),
  (76, (1, (-6), 0, 0, 0, 0, [])),
  (78, (64, 0, 0, 0, 0, 0, []))]
def e_X10_guestFault : Ev := (t_X10_guestFault, [(81, (3, 1, 0, 0, s_X10_in))], 1, 0, false, 0, fun _ => 0)
def s_X10_guestFault : Sp := spc e_X10_guestFault 2
theorem m_X10_guestFault : monoE e_X10_guestFault := monoE_of (cons_all (p_X10_in) nil_all)
theorem p_X10_guestFault : mono s_X10_guestFault := spc_mono m_X10_guestFault _
theorem k_X10_guestFault (l : Launch) : Con l y_X10_guestFault prog_12_method_12_code 2 (Option.some Jvm.ClassFile.FieldType.int) { frames := 1, cells := 0, slots := 0, locals := 22 } 1 0 s_X10_guestFault := con_of l e_X10_guestFault y_X10_guestFault prog_12_method_12_code 2 (Option.some Jvm.ClassFile.FieldType.int) _ (by decide +kernel) (cons_all (clS (k_X10_in l) f_X10_in ⟨rfl, rfl, Nat.le_of_ble_eq_true rfl, Nat.le_of_ble_eq_true rfl⟩ (mg 755 (by decide +kernel))) nil_all) (Or.inl (by decide +kernel))
theorem f_X10_guestFault : calV y_X10_guestFault prog_12_method_12_code 2 (Option.some Jvm.ClassFile.FieldType.int) 1 9 := ⟨⟨mem_g (i := 777) (by decide +kernel) rfl, mg 34 (by decide +kernel)⟩, by decide +kernel, by decide +kernel, by decide, mg 776 (by decide +kernel), mg 3 (by decide +kernel), _, rfl, rfl⟩
def y_X10_orderFault : MethodName := ⟨"ActsPaidModel", "orderFault", "()I"⟩
def t_X10_orderFault : List (Nat × Ao) := [
  (0, (0, 0, 0, 0, 0, 0, [])),
  (1, (13, 0, 0, 1, 0, 0, [])),
  (2, (0, 0, 0, 0, 0, 0, [])),
  (3, (13, 0, 0, 2, 0, 0, [])),
  (4, (7, 0, 0, 2, 0, 0, [])),
  (5, (9, 0, 0, 0, 0, 0, [])),
  (6, (55, 0, 0, 92, 301, 681, [])),
  (9, (50, 0, 0, 52, 0, 0, [])),
  (12, (9, 0, 0, 0, 0, 0, [])),
  (13, (55, 0, 0, 41, 302, 682, [])),
  (16, (7, 0, 0, 2, 0, 0, [])),
  (17, (57, 0, 0, 0, 0, 0, [])),
  (18, (1, 48, 0, 0, 0, 0, [])),
  (20, (20, 0, 0, 0, 0, 0, [])),
  (21, (13, 0, 0, 3, 0, 0, [])),
  (22, (9, 0, 0, 0, 0, 0, [])),
  (23, (7, 0, 0, 3, 0, 0, [])),
  (24, (62, 0, 0, 95, 0, 0, [])),
  (27, (41, 0, 0, 38, 0, 0, [])),
  (30, (7, 0, 0, 1, 0, 0, [])),
  (31, (7, 0, 0, 3, 0, 0, [])),
  (32, (63, 0, 0, 85, 0, 0, [])),
  (35, (41, 0, 0, 40, 0, 0, [])),
  (38, (7, 0, 0, 2, 0, 0, [])),
  (39, (64, 0, 0, 0, 0, 0, [])),
  (40, (7, 0, 0, 1, 0, 0, [])),
  (41, (0, 1, 0, 0, 0, 0, [])),
  (42, (7, 0, 0, 3, 0, 0, [])),
  (43, (28, 0, 0, 0, 0, 0, [])),
  (44, (26, 0, 0, 0, 0, 0, [])),
  (45, (13, 0, 0, 1, 0, 0, [])),
  (46, (39, 1, 0, 2, 0, 0, [])),
  (49, (40, 0, 0, 4, 0, 0, [])),
  (52, (9, 0, 0, 0, 0, 0, [])),
  (53, (55, 0, 0, 92, 301, 681, [])),
  (56, (9, 0, 0, 0, 0, 0, [])),
  (57, (55, 0, 0, 7, 288, 668, [])),
  (60, (50, 0, 0, 70, 0, 0, [])),
  (63, (9, 0, 0, 0, 0, 0, [])),
  (64, (55, 0, 0, 92, 301, 681, [])),
  (67, (40, 0, 0, 72, 0, 0, [])),
  (70, (1, (-6), 0, 0, 0, 0, [])),
  (72, (64, 0, 0, 0, 0, 0, []))]
def e_X10_orderFault : Ev := (t_X10_orderFault, [(85, (2, 1, 0, 0, s_X10_has)), (95, (2, 1, 0, 10, s_X10_isAct))], 1, 0, false, 0, fun _ => 0)
def s_X10_orderFault : Sp := spc e_X10_orderFault 4
theorem m_X10_orderFault : monoE e_X10_orderFault := monoE_of (cons_all (p_X10_has) (cons_all (p_X10_isAct) nil_all))
theorem p_X10_orderFault : mono s_X10_orderFault := spc_mono m_X10_orderFault _
theorem k_X10_orderFault (l : Launch) : Con l y_X10_orderFault prog_12_method_13_code 4 (Option.some Jvm.ClassFile.FieldType.int) { frames := 2, cells := 0, slots := 0, locals := 43 } 1 0 s_X10_orderFault := con_of l e_X10_orderFault y_X10_orderFault prog_12_method_13_code 4 (Option.some Jvm.ClassFile.FieldType.int) _ (by decide +kernel) (cons_all (clS (k_X10_has l) f_X10_has ⟨rfl, rfl, Nat.le_of_ble_eq_true rfl, Nat.le_of_ble_eq_true rfl⟩ (mg 786 (by decide +kernel))) (cons_all (clV (k_X10_isAct l) f_X10_isAct ⟨rfl, rfl, Nat.le_of_ble_eq_true rfl, Nat.le_of_ble_eq_true rfl⟩ (mg 782 (by decide +kernel))) nil_all)) (Or.inl (by decide +kernel))
theorem f_X10_orderFault : calV y_X10_orderFault prog_12_method_13_code 4 (Option.some Jvm.ClassFile.FieldType.int) 1 9 := ⟨⟨mem_g (i := 781) (by decide +kernel) rfl, mg 34 (by decide +kernel)⟩, by decide +kernel, by decide +kernel, by decide, mg 780 (by decide +kernel), mg 4 (by decide +kernel), _, rfl, rfl⟩
def y_X10_fault : MethodName := ⟨"ActsPaidModel", "fault", "(I)I"⟩
def t_X10_fault : List (Nat × Ao) := [
  (0, (7, 0, 0, 1, 0, 0, [])),
  (1, (42, 0, 0, 11, 0, 0, [])),
  (4, (9, 0, 0, 0, 0, 0, [])),
  (5, (62, 0, 0, 99, 0, 0, [])),
  (8, (40, 0, 0, 25, 0, 0, [])),
  (11, (7, 0, 0, 1, 0, 0, [])),
  (12, (0, 1, 0, 0, 0, 0, [])),
  (13, (48, 0, 0, 23, 0, 0, [])),
  (16, (9, 0, 0, 0, 0, 0, [])),
  (17, (62, 0, 0, 103, 0, 0, [])),
  (20, (40, 0, 0, 25, 0, 0, [])),
  (23, (1, (-2), 0, 0, 0, 0, [])),
  (25, (64, 0, 0, 0, 0, 0, []))]
def e_X10_fault : Ev := (t_X10_fault, [(99, (1, 1, 0, 10, s_X10_guestFault)), (103, (1, 1, 0, 10, s_X10_orderFault))], 1, 0, false, 0, fun _ => 0)
def s_X10_fault : Sp := spc e_X10_fault 2
theorem m_X10_fault : monoE e_X10_fault := monoE_of (cons_all (p_X10_guestFault) (cons_all (p_X10_orderFault) nil_all))
theorem p_X10_fault : mono s_X10_fault := spc_mono m_X10_fault _
theorem k_X10_fault (l : Launch) : Con l y_X10_fault prog_12_method_14_code 2 (Option.some Jvm.ClassFile.FieldType.int) { frames := 3, cells := 0, slots := 0, locals := 66 } 1 0 s_X10_fault := con_of l e_X10_fault y_X10_fault prog_12_method_14_code 2 (Option.some Jvm.ClassFile.FieldType.int) _ (by decide +kernel) (cons_all (clV (k_X10_guestFault l) f_X10_guestFault ⟨rfl, rfl, Nat.le_of_ble_eq_true rfl, Nat.le_of_ble_eq_true rfl⟩ (mg 774 (by decide +kernel))) (cons_all (clV (k_X10_orderFault l) f_X10_orderFault ⟨rfl, rfl, Nat.le_of_ble_eq_true rfl, Nat.le_of_ble_eq_true rfl⟩ (mg 778 (by decide +kernel))) nil_all)) (Or.inl (by decide +kernel))
theorem f_X10_fault : calV y_X10_fault prog_12_method_14_code 2 (Option.some Jvm.ClassFile.FieldType.int) 2 9 := ⟨⟨mem_g (i := 773) (by decide +kernel) rfl, mg 34 (by decide +kernel)⟩, by decide +kernel, by decide +kernel, by decide, mg 771 (by decide +kernel), mg 772 (by decide +kernel), _, rfl, rfl⟩
def y_X10_guest : MethodName := ⟨"ActsPaidModel", "guest", "(I)I"⟩
def t_X10_guest : List (Nat × Ao) := [
  (0, (7, 0, 0, 1, 0, 0, [])),
  (1, (0, 0, 0, 0, 0, 0, [])),
  (2, (1, 7, 0, 0, 0, 0, [])),
  (4, (63, 0, 0, 81, 0, 0, [])),
  (7, (42, 0, 0, 12, 0, 0, [])),
  (10, (0, (-1), 0, 0, 0, 0, [])),
  (11, (64, 0, 0, 0, 0, 0, [])),
  (12, (9, 0, 0, 0, 0, 0, [])),
  (13, (62, 0, 0, 99, 0, 0, [])),
  (16, (43, 0, 0, 22, 0, 0, [])),
  (19, (1, (-5), 0, 0, 0, 0, [])),
  (21, (64, 0, 0, 0, 0, 0, [])),
  (22, (0, 0, 0, 0, 0, 0, [])),
  (23, (13, 0, 0, 2, 0, 0, [])),
  (24, (7, 0, 0, 2, 0, 0, [])),
  (25, (9, 0, 0, 0, 0, 0, [])),
  (26, (55, 0, 0, 7, 288, 668, [])),
  (29, (50, 0, 0, 81, 0, 0, [])),
  (32, (9, 0, 0, 0, 0, 0, [])),
  (33, (55, 0, 0, 22, 294, 674, [])),
  (36, (1, 6, 0, 0, 0, 0, [])),
  (38, (7, 0, 0, 1, 0, 0, [])),
  (39, (21, 0, 0, 0, 0, 0, [])),
  (40, (7, 0, 0, 2, 0, 0, [])),
  (41, (19, 0, 0, 0, 0, 0, [])),
  (42, (9, 0, 0, 0, 0, 0, [])),
  (43, (55, 0, 0, 41, 302, 682, [])),
  (46, (7, 0, 0, 2, 0, 0, [])),
  (47, (57, 0, 0, 0, 0, 0, [])),
  (48, (1, 97, 0, 0, 0, 0, [])),
  (50, (49, 0, 0, 65, 0, 0, [])),
  (53, (9, 0, 0, 0, 0, 0, [])),
  (54, (55, 0, 0, 41, 302, 682, [])),
  (57, (7, 0, 0, 2, 0, 0, [])),
  (58, (57, 0, 0, 0, 0, 0, [])),
  (59, (1, 97, 0, 0, 0, 0, [])),
  (61, (20, 0, 0, 0, 0, 0, [])),
  (62, (40, 0, 0, 74, 0, 0, [])),
  (65, (1, 64, 0, 0, 0, 0, [])),
  (67, (9, 0, 0, 0, 0, 0, [])),
  (68, (55, 0, 0, 41, 302, 682, [])),
  (71, (7, 0, 0, 2, 0, 0, [])),
  (72, (57, 0, 0, 0, 0, 0, [])),
  (73, (20, 0, 0, 0, 0, 0, [])),
  (74, (58, 0, 0, 0, 0, 0, [])),
  (75, (39, 1, 0, 2, 0, 0, [])),
  (78, (40, 0, 0, 24, 0, 0, [])),
  (81, (9, 0, 0, 0, 0, 0, [])),
  (82, (37, 0, 0, 0, 0, 0, [])),
  (83, (55, 0, 0, 75, 289, 669, [])),
  (86, (0, 1, 0, 0, 0, 0, [])),
  (87, (7, 0, 0, 1, 0, 0, [])),
  (88, (28, 0, 0, 0, 0, 0, [])),
  (89, (26, 0, 0, 0, 0, 0, [])),
  (90, (56, 0, 0, 75, 289, 669, [])),
  (93, (9, 0, 0, 0, 0, 0, [])),
  (94, (0, 0, 0, 0, 0, 0, [])),
  (95, (56, 0, 0, 92, 301, 681, [])),
  (98, (9, 0, 0, 0, 0, 0, [])),
  (99, (55, 0, 0, 75, 289, 669, [])),
  (102, (63, 0, 0, 106, 0, 0, [])),
  (105, (64, 0, 0, 0, 0, 0, []))]
def e_X10_guest : Ev := (t_X10_guest, [(81, (3, 1, 0, 0, s_X10_in)), (99, (1, 1, 0, 10, s_X10_guestFault)), (106, (1, 1, 0, 0, s_X10_bits))], 1, 0, false, 0, fun _ => 0)
def s_X10_guest : Sp := spc e_X10_guest 3
theorem m_X10_guest : monoE e_X10_guest := monoE_of (cons_all (p_X10_in) (cons_all (p_X10_guestFault) (cons_all (p_X10_bits) nil_all)))
theorem p_X10_guest : mono s_X10_guest := spc_mono m_X10_guest _
theorem k_X10_guest (l : Launch) : Con l y_X10_guest prog_12_method_15_code 3 (Option.some Jvm.ClassFile.FieldType.int) { frames := 2, cells := 0, slots := 0, locals := 43 } 1 0 s_X10_guest := con_of l e_X10_guest y_X10_guest prog_12_method_15_code 3 (Option.some Jvm.ClassFile.FieldType.int) _ (by decide +kernel) (cons_all (clS (k_X10_in l) f_X10_in ⟨rfl, rfl, Nat.le_of_ble_eq_true rfl, Nat.le_of_ble_eq_true rfl⟩ (mg 755 (by decide +kernel))) (cons_all (clV (k_X10_guestFault l) f_X10_guestFault ⟨rfl, rfl, Nat.le_of_ble_eq_true rfl, Nat.le_of_ble_eq_true rfl⟩ (mg 774 (by decide +kernel))) (cons_all (clS (k_X10_bits l) f_X10_bits ⟨rfl, rfl, Nat.le_of_ble_eq_true rfl, Nat.le_of_ble_eq_true rfl⟩ (mg 793 (by decide +kernel))) nil_all))) (Or.inl (by decide +kernel))
theorem f_X10_guest : calV y_X10_guest prog_12_method_15_code 3 (Option.some Jvm.ClassFile.FieldType.int) 2 9 := ⟨⟨mem_g (i := 792) (by decide +kernel) rfl, mg 34 (by decide +kernel)⟩, by decide +kernel, by decide +kernel, by decide, mg 790 (by decide +kernel), mg 791 (by decide +kernel), _, rfl, rfl⟩
def y_X10_leave : MethodName := ⟨"ActsPaidModel", "leave", "(I)I"⟩
def t_X10_leave : List (Nat × Ao) := [
  (0, (9, 0, 0, 0, 0, 0, [])),
  (1, (7, 0, 0, 1, 0, 0, [])),
  (2, (62, 0, 0, 110, 0, 0, [])),
  (5, (42, 0, 0, 10, 0, 0, [])),
  (8, (0, (-1), 0, 0, 0, 0, [])),
  (9, (64, 0, 0, 0, 0, 0, [])),
  (10, (9, 0, 0, 0, 0, 0, [])),
  (11, (37, 0, 0, 0, 0, 0, [])),
  (12, (55, 0, 0, 75, 289, 669, [])),
  (15, (0, 1, 0, 0, 0, 0, [])),
  (16, (7, 0, 0, 1, 0, 0, [])),
  (17, (28, 0, 0, 0, 0, 0, [])),
  (18, (0, (-1), 0, 0, 0, 0, [])),
  (19, (27, 0, 0, 0, 0, 0, [])),
  (20, (25, 0, 0, 0, 0, 0, [])),
  (21, (56, 0, 0, 75, 289, 669, [])),
  (24, (9, 0, 0, 0, 0, 0, [])),
  (25, (55, 0, 0, 75, 289, 669, [])),
  (28, (63, 0, 0, 106, 0, 0, [])),
  (31, (64, 0, 0, 0, 0, 0, []))]
def e_X10_leave : Ev := (t_X10_leave, [(106, (1, 1, 0, 0, s_X10_bits)), (110, (2, 1, 0, 10, s_X10_comes))], 1, 0, false, 0, fun _ => 0)
def s_X10_leave : Sp := spc e_X10_leave 2
theorem m_X10_leave : monoE e_X10_leave := monoE_of (cons_all (p_X10_bits) (cons_all (p_X10_comes) nil_all))
theorem p_X10_leave : mono s_X10_leave := spc_mono m_X10_leave _
theorem k_X10_leave (l : Launch) : Con l y_X10_leave prog_12_method_16_code 2 (Option.some Jvm.ClassFile.FieldType.int) { frames := 2, cells := 0, slots := 0, locals := 43 } 1 0 s_X10_leave := con_of l e_X10_leave y_X10_leave prog_12_method_16_code 2 (Option.some Jvm.ClassFile.FieldType.int) _ (by decide +kernel) (cons_all (clS (k_X10_bits l) f_X10_bits ⟨rfl, rfl, Nat.le_of_ble_eq_true rfl, Nat.le_of_ble_eq_true rfl⟩ (mg 793 (by decide +kernel))) (cons_all (clV (k_X10_comes l) f_X10_comes ⟨rfl, rfl, Nat.le_of_ble_eq_true rfl, Nat.le_of_ble_eq_true rfl⟩ (mg 800 (by decide +kernel))) nil_all)) (Or.inl (by decide +kernel))
theorem f_X10_leave : calV y_X10_leave prog_12_method_16_code 2 (Option.some Jvm.ClassFile.FieldType.int) 2 9 := ⟨⟨mem_g (i := 799) (by decide +kernel) rfl, mg 34 (by decide +kernel)⟩, by decide +kernel, by decide +kernel, by decide, mg 797 (by decide +kernel), mg 798 (by decide +kernel), _, rfl, rfl⟩
def y_X10_worth : MethodName := ⟨"ActsPaidModel", "worth", "(II)I"⟩
def t_X10_worth : List (Nat × Ao) := [
  (0, (9, 0, 0, 0, 0, 0, [])),
  (1, (7, 0, 0, 1, 0, 0, [])),
  (2, (62, 0, 0, 110, 0, 0, [])),
  (5, (41, 0, 0, 33, 0, 0, [])),
  (8, (9, 0, 0, 0, 0, 0, [])),
  (9, (7, 0, 0, 2, 0, 0, [])),
  (10, (62, 0, 0, 95, 0, 0, [])),
  (13, (41, 0, 0, 33, 0, 0, [])),
  (16, (9, 0, 0, 0, 0, 0, [])),
  (17, (55, 0, 0, 22, 294, 674, [])),
  (20, (1, 6, 0, 0, 0, 0, [])),
  (22, (7, 0, 0, 1, 0, 0, [])),
  (23, (21, 0, 0, 0, 0, 0, [])),
  (24, (7, 0, 0, 2, 0, 0, [])),
  (25, (19, 0, 0, 0, 0, 0, [])),
  (26, (57, 0, 0, 0, 0, 0, [])),
  (27, (1, 10, 0, 0, 0, 0, [])),
  (29, (19, 0, 0, 0, 0, 0, [])),
  (30, (40, 0, 0, 34, 0, 0, [])),
  (33, (0, (-1), 0, 0, 0, 0, [])),
  (34, (64, 0, 0, 0, 0, 0, []))]
def e_X10_worth : Ev := (t_X10_worth, [(95, (2, 1, 0, 10, s_X10_isAct)), (110, (2, 1, 0, 10, s_X10_comes))], 1, 0, false, 0, fun _ => 0)
def s_X10_worth : Sp := spc e_X10_worth 3
theorem m_X10_worth : monoE e_X10_worth := monoE_of (cons_all (p_X10_isAct) (cons_all (p_X10_comes) nil_all))
theorem p_X10_worth : mono s_X10_worth := spc_mono m_X10_worth _
theorem k_X10_worth (l : Launch) : Con l y_X10_worth prog_12_method_17_code 3 (Option.some Jvm.ClassFile.FieldType.int) { frames := 2, cells := 0, slots := 0, locals := 43 } 1 0 s_X10_worth := con_of l e_X10_worth y_X10_worth prog_12_method_17_code 3 (Option.some Jvm.ClassFile.FieldType.int) _ (by decide +kernel) (cons_all (clV (k_X10_isAct l) f_X10_isAct ⟨rfl, rfl, Nat.le_of_ble_eq_true rfl, Nat.le_of_ble_eq_true rfl⟩ (mg 782 (by decide +kernel))) (cons_all (clV (k_X10_comes l) f_X10_comes ⟨rfl, rfl, Nat.le_of_ble_eq_true rfl, Nat.le_of_ble_eq_true rfl⟩ (mg 800 (by decide +kernel))) nil_all)) (Or.inl (by decide +kernel))
theorem f_X10_worth : calV y_X10_worth prog_12_method_17_code 3 (Option.some Jvm.ClassFile.FieldType.int) 3 9 := ⟨⟨mem_g (i := 807) (by decide +kernel) rfl, mg 34 (by decide +kernel)⟩, by decide +kernel, by decide +kernel, by decide, mg 805 (by decide +kernel), mg 806 (by decide +kernel), _, rfl, rfl⟩
def y_X10_play : MethodName := ⟨"ActsPaidModel", "play", "()I"⟩
def t_X10_play : List (Nat × Ao) := [
  (0, (9, 0, 0, 0, 0, 0, [])),
  (1, (62, 0, 0, 103, 0, 0, [])),
  (4, (43, 0, 0, 10, 0, 0, [])),
  (7, (1, (-5), 0, 0, 0, 0, [])),
  (9, (64, 0, 0, 0, 0, 0, [])),
  (10, (0, 0, 0, 0, 0, 0, [])),
  (11, (13, 0, 0, 1, 0, 0, [])),
  (12, (7, 0, 0, 1, 0, 0, [])),
  (13, (9, 0, 0, 0, 0, 0, [])),
  (14, (55, 0, 0, 7, 288, 668, [])),
  (17, (50, 0, 0, 41, 0, 0, [])),
  (20, (9, 0, 0, 0, 0, 0, [])),
  (21, (55, 0, 0, 26, 295, 675, [])),
  (24, (7, 0, 0, 1, 0, 0, [])),
  (25, (9, 0, 0, 0, 0, 0, [])),
  (26, (55, 0, 0, 41, 302, 682, [])),
  (29, (7, 0, 0, 1, 0, 0, [])),
  (30, (57, 0, 0, 0, 0, 0, [])),
  (31, (1, 48, 0, 0, 0, 0, [])),
  (33, (20, 0, 0, 0, 0, 0, [])),
  (34, (58, 0, 0, 0, 0, 0, [])),
  (35, (39, 1, 0, 1, 0, 0, [])),
  (38, (40, 0, 0, 12, 0, 0, [])),
  (41, (9, 0, 0, 0, 0, 0, [])),
  (42, (0, 0, 0, 0, 0, 0, [])),
  (43, (56, 0, 0, 92, 301, 681, [])),
  (46, (0, 1, 0, 0, 0, 0, [])),
  (47, (64, 0, 0, 0, 0, 0, []))]
def e_X10_play : Ev := (t_X10_play, [(103, (1, 1, 0, 10, s_X10_orderFault))], 1, 0, false, 0, fun _ => 0)
def s_X10_play : Sp := spc e_X10_play 2
theorem m_X10_play : monoE e_X10_play := monoE_of (cons_all (p_X10_orderFault) nil_all)
theorem p_X10_play : mono s_X10_play := spc_mono m_X10_play _
theorem k_X10_play (l : Launch) : Con l y_X10_play prog_12_method_18_code 2 (Option.some Jvm.ClassFile.FieldType.int) { frames := 3, cells := 0, slots := 0, locals := 66 } 1 0 s_X10_play := con_of l e_X10_play y_X10_play prog_12_method_18_code 2 (Option.some Jvm.ClassFile.FieldType.int) _ (by decide +kernel) (cons_all (clV (k_X10_orderFault l) f_X10_orderFault ⟨rfl, rfl, Nat.le_of_ble_eq_true rfl, Nat.le_of_ble_eq_true rfl⟩ (mg 778 (by decide +kernel))) nil_all) (Or.inl (by decide +kernel))
theorem f_X10_play : calV y_X10_play prog_12_method_18_code 2 (Option.some Jvm.ClassFile.FieldType.int) 1 9 := ⟨⟨mem_g (i := 811) (by decide +kernel) rfl, mg 34 (by decide +kernel)⟩, by decide +kernel, by decide +kernel, by decide, mg 809 (by decide +kernel), mg 810 (by decide +kernel), _, rfl, rfl⟩
def y_X10_faresOf : MethodName := ⟨"ActsPaidModel", "faresOf", "(II)I"⟩
def t_X10_faresOf : List (Nat × Ao) := [
  (0, (7, 0, 0, 2, 0, 0, [])),
  (1, (7, 0, 0, 1, 0, 0, [])),
  (2, (21, 0, 0, 0, 0, 0, [])),
  (3, (9, 0, 0, 0, 0, 0, [])),
  (4, (55, 0, 0, 16, 291, 671, [])),
  (7, (7, 0, 0, 2, 0, 0, [])),
  (8, (21, 0, 0, 0, 0, 0, [])),
  (9, (7, 0, 0, 2, 0, 0, [])),
  (10, (0, 1, 0, 0, 0, 0, [])),
  (11, (20, 0, 0, 0, 0, 0, [])),
  (12, (21, 0, 0, 0, 0, 0, [])),
  (13, (0, 2, 0, 0, 0, 0, [])),
  (14, (22, 0, 0, 0, 0, 0, [])),
  (15, (19, 0, 0, 0, 0, 0, [])),
  (16, (64, 0, 0, 0, 0, 0, []))]
def e_X10_faresOf : Ev := (t_X10_faresOf, [], 1, 0, false, 0, fun _ => 0)
def s_X10_faresOf : Sp := spc e_X10_faresOf 3
theorem m_X10_faresOf : monoE e_X10_faresOf := monoE_of nil_all
theorem p_X10_faresOf : mono s_X10_faresOf := spc_mono m_X10_faresOf _
theorem k_X10_faresOf (l : Launch) : Con l y_X10_faresOf prog_12_method_19_code 3 (Option.some Jvm.ClassFile.FieldType.int) { frames := 0, cells := 0, slots := 0, locals := 0 } 1 0 s_X10_faresOf := con_of l e_X10_faresOf y_X10_faresOf prog_12_method_19_code 3 (Option.some Jvm.ClassFile.FieldType.int) _ (by decide +kernel) nil_all (Or.inl (by decide +kernel))
theorem f_X10_faresOf : calV y_X10_faresOf prog_12_method_19_code 3 (Option.some Jvm.ClassFile.FieldType.int) 3 9 := ⟨⟨mem_g (i := 823) (by decide +kernel) rfl, mg 34 (by decide +kernel)⟩, by decide +kernel, by decide +kernel, by decide, mg 822 (by decide +kernel), mg 8 (by decide +kernel), _, rfl, rfl⟩
def y_X10_leavesAt : MethodName := ⟨"ActsPaidModel", "leavesAt", "(I)I"⟩
def t_X10_leavesAt : List (Nat × Ao) := [
  (0, (0, 0, 0, 0, 0, 0, [])),
  (1, (13, 0, 0, 2, 0, 0, [])),
  (2, (0, 0, 0, 0, 0, 0, [])),
  (3, (13, 0, 0, 3, 0, 0, [])),
  (4, (9, 0, 0, 0, 0, 0, [])),
  (5, (0, 0, 0, 0, 0, 0, [])),
  (6, (56, 0, 0, 113, 303, 683, [])),
  (9, (0, 1, 0, 0, 0, 0, [])),
  (10, (14, 0, 0, 4, 0, 0, [])),
  (12, (8, 0, 0, 4, 0, 0, [])),
  (14, (9, 0, 0, 0, 0, 0, [])),
  (15, (55, 0, 0, 7, 288, 668, [])),
  (18, (51, 0, 0, 97, 0, 0, [])),
  (21, (7, 0, 0, 3, 0, 0, [])),
  (22, (9, 0, 0, 0, 0, 0, [])),
  (23, (55, 0, 0, 22, 294, 674, [])),
  (26, (1, 6, 0, 0, 0, 0, [])),
  (28, (7, 0, 0, 1, 0, 0, [])),
  (29, (21, 0, 0, 0, 0, 0, [])),
  (30, (9, 0, 0, 0, 0, 0, [])),
  (31, (55, 0, 0, 26, 295, 675, [])),
  (34, (8, 0, 0, 4, 0, 0, [])),
  (36, (0, 1, 0, 0, 0, 0, [])),
  (37, (20, 0, 0, 0, 0, 0, [])),
  (38, (57, 0, 0, 0, 0, 0, [])),
  (39, (19, 0, 0, 0, 0, 0, [])),
  (40, (57, 0, 0, 0, 0, 0, [])),
  (41, (19, 0, 0, 0, 0, 0, [])),
  (42, (13, 0, 0, 3, 0, 0, [])),
  (43, (7, 0, 0, 3, 0, 0, [])),
  (44, (9, 0, 0, 0, 0, 0, [])),
  (45, (9, 0, 0, 0, 0, 0, [])),
  (46, (55, 0, 0, 13, 290, 670, [])),
  (49, (8, 0, 0, 4, 0, 0, [])),
  (51, (62, 0, 0, 116, 0, 0, [])),
  (54, (20, 0, 0, 0, 0, 0, [])),
  (55, (14, 0, 0, 5, 0, 0, [])),
  (57, (8, 0, 0, 5, 0, 0, [])),
  (59, (9, 0, 0, 0, 0, 0, [])),
  (60, (55, 0, 0, 113, 303, 683, [])),
  (63, (52, 0, 0, 91, 0, 0, [])),
  (66, (9, 0, 0, 0, 0, 0, [])),
  (67, (55, 0, 0, 89, 292, 672, [])),
  (70, (41, 0, 0, 82, 0, 0, [])),
  (73, (8, 0, 0, 4, 0, 0, [])),
  (75, (9, 0, 0, 0, 0, 0, [])),
  (76, (55, 0, 0, 7, 288, 668, [])),
  (79, (48, 0, 0, 91, 0, 0, [])),
  (82, (9, 0, 0, 0, 0, 0, [])),
  (83, (8, 0, 0, 5, 0, 0, [])),
  (85, (56, 0, 0, 113, 303, 683, [])),
  (88, (8, 0, 0, 4, 0, 0, [])),
  (90, (13, 0, 0, 2, 0, 0, [])),
  (91, (39, 1, 0, 4, 0, 0, [])),
  (94, (40, 0, 0, 12, 0, 0, [])),
  (97, (7, 0, 0, 2, 0, 0, [])),
  (98, (64, 0, 0, 0, 0, 0, []))]
def e_X10_leavesAt : Ev := (t_X10_leavesAt, [(116, (3, 1, 0, 10, s_X10_faresOf))], 1, 0, false, 0, fun _ => 0)
def s_X10_leavesAt : Sp := spc e_X10_leavesAt 6
theorem m_X10_leavesAt : monoE e_X10_leavesAt := monoE_of (cons_all (p_X10_faresOf) nil_all)
theorem p_X10_leavesAt : mono s_X10_leavesAt := spc_mono m_X10_leavesAt _
theorem k_X10_leavesAt (l : Launch) : Con l y_X10_leavesAt prog_12_method_20_code 6 (Option.some Jvm.ClassFile.FieldType.int) { frames := 1, cells := 0, slots := 0, locals := 22 } 1 0 s_X10_leavesAt := con_of l e_X10_leavesAt y_X10_leavesAt prog_12_method_20_code 6 (Option.some Jvm.ClassFile.FieldType.int) _ (by decide +kernel) (cons_all (clV (k_X10_faresOf l) f_X10_faresOf ⟨rfl, rfl, Nat.le_of_ble_eq_true rfl, Nat.le_of_ble_eq_true rfl⟩ (mg 820 (by decide +kernel))) nil_all) (Or.inl (by decide +kernel))
theorem f_X10_leavesAt : calV y_X10_leavesAt prog_12_method_20_code 6 (Option.some Jvm.ClassFile.FieldType.int) 2 9 := ⟨⟨mem_g (i := 819) (by decide +kernel) rfl, mg 34 (by decide +kernel)⟩, by decide +kernel, by decide +kernel, by decide, mg 818 (by decide +kernel), mg 7 (by decide +kernel), _, rfl, rfl⟩
def y_X10_paysOf : MethodName := ⟨"ActsPaidModel", "paysOf", "(I)I"⟩
def t_X10_paysOf : List (Nat × Ao) := [
  (0, (9, 0, 0, 0, 0, 0, [])),
  (1, (9, 0, 0, 0, 0, 0, [])),
  (2, (55, 0, 0, 13, 290, 670, [])),
  (5, (9, 0, 0, 0, 0, 0, [])),
  (6, (7, 0, 0, 1, 0, 0, [])),
  (7, (62, 0, 0, 120, 0, 0, [])),
  (10, (62, 0, 0, 116, 0, 0, [])),
  (13, (64, 0, 0, 0, 0, 0, []))]
def e_X10_paysOf : Ev := (t_X10_paysOf, [(116, (3, 1, 0, 10, s_X10_faresOf)), (120, (2, 1, 0, 10, s_X10_leavesAt))], 1, 0, false, 0, fun _ => 0)
def s_X10_paysOf : Sp := spc e_X10_paysOf 2
theorem m_X10_paysOf : monoE e_X10_paysOf := monoE_of (cons_all (p_X10_faresOf) (cons_all (p_X10_leavesAt) nil_all))
theorem p_X10_paysOf : mono s_X10_paysOf := spc_mono m_X10_paysOf _
theorem k_X10_paysOf (l : Launch) : Con l y_X10_paysOf prog_12_method_21_code 2 (Option.some Jvm.ClassFile.FieldType.int) { frames := 2, cells := 0, slots := 0, locals := 47 } 1 0 s_X10_paysOf := con_of l e_X10_paysOf y_X10_paysOf prog_12_method_21_code 2 (Option.some Jvm.ClassFile.FieldType.int) _ (by decide +kernel) (cons_all (clV (k_X10_faresOf l) f_X10_faresOf ⟨rfl, rfl, Nat.le_of_ble_eq_true rfl, Nat.le_of_ble_eq_true rfl⟩ (mg 820 (by decide +kernel))) (cons_all (clV (k_X10_leavesAt l) f_X10_leavesAt ⟨rfl, rfl, Nat.le_of_ble_eq_true rfl, Nat.le_of_ble_eq_true rfl⟩ (mg 816 (by decide +kernel))) nil_all)) (Or.inl (by decide +kernel))
theorem f_X10_paysOf : calV y_X10_paysOf prog_12_method_21_code 2 (Option.some Jvm.ClassFile.FieldType.int) 2 9 := ⟨⟨mem_g (i := 835) (by decide +kernel) rfl, mg 34 (by decide +kernel)⟩, by decide +kernel, by decide +kernel, by decide, mg 834 (by decide +kernel), mg 10 (by decide +kernel), _, rfl, rfl⟩
def y_X10_allTakings : MethodName := ⟨"ActsPaidModel", "allTakings", "()I"⟩
def t_X10_allTakings : List (Nat × Ao) := [
  (0, (0, 0, 0, 0, 0, 0, [])),
  (1, (13, 0, 0, 1, 0, 0, [])),
  (2, (0, 0, 0, 0, 0, 0, [])),
  (3, (13, 0, 0, 2, 0, 0, [])),
  (4, (7, 0, 0, 2, 0, 0, [])),
  (5, (1, 8, 0, 0, 0, 0, [])),
  (7, (50, 0, 0, 39, 0, 0, [])),
  (10, (7, 0, 0, 1, 0, 0, [])),
  (11, (9, 0, 0, 0, 0, 0, [])),
  (12, (55, 0, 0, 75, 289, 669, [])),
  (15, (7, 0, 0, 2, 0, 0, [])),
  (16, (63, 0, 0, 85, 0, 0, [])),
  (19, (41, 0, 0, 30, 0, 0, [])),
  (22, (9, 0, 0, 0, 0, 0, [])),
  (23, (7, 0, 0, 2, 0, 0, [])),
  (24, (62, 0, 0, 123, 0, 0, [])),
  (27, (40, 0, 0, 31, 0, 0, [])),
  (30, (0, 0, 0, 0, 0, 0, [])),
  (31, (19, 0, 0, 0, 0, 0, [])),
  (32, (13, 0, 0, 1, 0, 0, [])),
  (33, (39, 1, 0, 2, 0, 0, [])),
  (36, (40, 0, 0, 4, 0, 0, [])),
  (39, (7, 0, 0, 1, 0, 0, [])),
  (40, (64, 0, 0, 0, 0, 0, []))]
def e_X10_allTakings : Ev := (t_X10_allTakings, [(85, (2, 1, 0, 0, s_X10_has)), (123, (2, 1, 0, 10, s_X10_paysOf))], 1, 0, false, 0, fun _ => 0)
def s_X10_allTakings : Sp := spc e_X10_allTakings 3
theorem m_X10_allTakings : monoE e_X10_allTakings := monoE_of (cons_all (p_X10_has) (cons_all (p_X10_paysOf) nil_all))
theorem p_X10_allTakings : mono s_X10_allTakings := spc_mono m_X10_allTakings _
theorem k_X10_allTakings (l : Launch) : Con l y_X10_allTakings prog_12_method_22_code 3 (Option.some Jvm.ClassFile.FieldType.int) { frames := 3, cells := 0, slots := 0, locals := 68 } 1 0 s_X10_allTakings := con_of l e_X10_allTakings y_X10_allTakings prog_12_method_22_code 3 (Option.some Jvm.ClassFile.FieldType.int) _ (by decide +kernel) (cons_all (clS (k_X10_has l) f_X10_has ⟨rfl, rfl, Nat.le_of_ble_eq_true rfl, Nat.le_of_ble_eq_true rfl⟩ (mg 786 (by decide +kernel))) (cons_all (clV (k_X10_paysOf l) f_X10_paysOf ⟨rfl, rfl, Nat.le_of_ble_eq_true rfl, Nat.le_of_ble_eq_true rfl⟩ (mg 832 (by decide +kernel))) nil_all)) (Or.inl (by decide +kernel))
theorem f_X10_allTakings : calV y_X10_allTakings prog_12_method_22_code 3 (Option.some Jvm.ClassFile.FieldType.int) 1 9 := ⟨⟨mem_g (i := 831) (by decide +kernel) rfl, mg 34 (by decide +kernel)⟩, by decide +kernel, by decide +kernel, by decide, mg 830 (by decide +kernel), mg 9 (by decide +kernel), _, rfl, rfl⟩
def y_X10_leaves : MethodName := ⟨"ActsPaidModel", "leaves", "(II)I"⟩
def t_X10_leaves : List (Nat × Ao) := [
  (0, (9, 0, 0, 0, 0, 0, [])),
  (1, (7, 0, 0, 1, 0, 0, [])),
  (2, (62, 0, 0, 110, 0, 0, [])),
  (5, (42, 0, 0, 10, 0, 0, [])),
  (8, (0, (-1), 0, 0, 0, 0, [])),
  (9, (64, 0, 0, 0, 0, 0, [])),
  (10, (7, 0, 0, 2, 0, 0, [])),
  (11, (0, 0, 0, 0, 0, 0, [])),
  (12, (0, 2, 0, 0, 0, 0, [])),
  (13, (63, 0, 0, 81, 0, 0, [])),
  (16, (42, 0, 0, 22, 0, 0, [])),
  (19, (1, (-2), 0, 0, 0, 0, [])),
  (21, (64, 0, 0, 0, 0, 0, [])),
  (22, (9, 0, 0, 0, 0, 0, [])),
  (23, (7, 0, 0, 1, 0, 0, [])),
  (24, (62, 0, 0, 120, 0, 0, [])),
  (27, (13, 0, 0, 3, 0, 0, [])),
  (28, (7, 0, 0, 2, 0, 0, [])),
  (29, (42, 0, 0, 36, 0, 0, [])),
  (32, (7, 0, 0, 3, 0, 0, [])),
  (33, (40, 0, 0, 57, 0, 0, [])),
  (36, (7, 0, 0, 2, 0, 0, [])),
  (37, (0, 1, 0, 0, 0, 0, [])),
  (38, (48, 0, 0, 53, 0, 0, [])),
  (41, (9, 0, 0, 0, 0, 0, [])),
  (42, (9, 0, 0, 0, 0, 0, [])),
  (43, (55, 0, 0, 13, 290, 670, [])),
  (46, (7, 0, 0, 3, 0, 0, [])),
  (47, (62, 0, 0, 116, 0, 0, [])),
  (50, (40, 0, 0, 57, 0, 0, [])),
  (53, (9, 0, 0, 0, 0, 0, [])),
  (54, (55, 0, 0, 113, 303, 683, [])),
  (57, (64, 0, 0, 0, 0, 0, []))]
def e_X10_leaves : Ev := (t_X10_leaves, [(81, (3, 1, 0, 0, s_X10_in)), (110, (2, 1, 0, 10, s_X10_comes)), (116, (3, 1, 0, 10, s_X10_faresOf)), (120, (2, 1, 0, 10, s_X10_leavesAt))], 1, 0, false, 0, fun _ => 0)
def s_X10_leaves : Sp := spc e_X10_leaves 4
theorem m_X10_leaves : monoE e_X10_leaves := monoE_of (cons_all (p_X10_in) (cons_all (p_X10_comes) (cons_all (p_X10_faresOf) (cons_all (p_X10_leavesAt) nil_all))))
theorem p_X10_leaves : mono s_X10_leaves := spc_mono m_X10_leaves _
theorem k_X10_leaves (l : Launch) : Con l y_X10_leaves prog_12_method_23_code 4 (Option.some Jvm.ClassFile.FieldType.int) { frames := 2, cells := 0, slots := 0, locals := 47 } 1 0 s_X10_leaves := con_of l e_X10_leaves y_X10_leaves prog_12_method_23_code 4 (Option.some Jvm.ClassFile.FieldType.int) _ (by decide +kernel) (cons_all (clS (k_X10_in l) f_X10_in ⟨rfl, rfl, Nat.le_of_ble_eq_true rfl, Nat.le_of_ble_eq_true rfl⟩ (mg 755 (by decide +kernel))) (cons_all (clV (k_X10_comes l) f_X10_comes ⟨rfl, rfl, Nat.le_of_ble_eq_true rfl, Nat.le_of_ble_eq_true rfl⟩ (mg 800 (by decide +kernel))) (cons_all (clV (k_X10_faresOf l) f_X10_faresOf ⟨rfl, rfl, Nat.le_of_ble_eq_true rfl, Nat.le_of_ble_eq_true rfl⟩ (mg 820 (by decide +kernel))) (cons_all (clV (k_X10_leavesAt l) f_X10_leavesAt ⟨rfl, rfl, Nat.le_of_ble_eq_true rfl, Nat.le_of_ble_eq_true rfl⟩ (mg 816 (by decide +kernel))) nil_all)))) (Or.inl (by decide +kernel))
theorem f_X10_leaves : calV y_X10_leaves prog_12_method_23_code 4 (Option.some Jvm.ClassFile.FieldType.int) 3 9 := ⟨⟨mem_g (i := 815) (by decide +kernel) rfl, mg 34 (by decide +kernel)⟩, by decide +kernel, by decide +kernel, by decide, mg 813 (by decide +kernel), mg 814 (by decide +kernel), _, rfl, rfl⟩
def y_X10_takings : MethodName := ⟨"ActsPaidModel", "takings", "()I"⟩
def t_X10_takings : List (Nat × Ao) := [
  (0, (9, 0, 0, 0, 0, 0, [])),
  (1, (62, 0, 0, 126, 0, 0, [])),
  (4, (64, 0, 0, 0, 0, 0, []))]
def e_X10_takings : Ev := (t_X10_takings, [(126, (1, 1, 0, 10, s_X10_allTakings))], 1, 0, false, 0, fun _ => 0)
def s_X10_takings : Sp := spc e_X10_takings 1
theorem m_X10_takings : monoE e_X10_takings := monoE_of (cons_all (p_X10_allTakings) nil_all)
theorem p_X10_takings : mono s_X10_takings := spc_mono m_X10_takings _
theorem k_X10_takings (l : Launch) : Con l y_X10_takings prog_12_method_24_code 1 (Option.some Jvm.ClassFile.FieldType.int) { frames := 4, cells := 0, slots := 0, locals := 90 } 1 0 s_X10_takings := con_of l e_X10_takings y_X10_takings prog_12_method_24_code 1 (Option.some Jvm.ClassFile.FieldType.int) _ (by decide +kernel) (cons_all (clV (k_X10_allTakings l) f_X10_allTakings ⟨rfl, rfl, Nat.le_of_ble_eq_true rfl, Nat.le_of_ble_eq_true rfl⟩ (mg 828 (by decide +kernel))) nil_all) (Or.inl (by decide +kernel))
theorem f_X10_takings : calV y_X10_takings prog_12_method_24_code 1 (Option.some Jvm.ClassFile.FieldType.int) 1 9 := ⟨⟨mem_g (i := 827) (by decide +kernel) rfl, mg 34 (by decide +kernel)⟩, by decide +kernel, by decide +kernel, by decide, mg 825 (by decide +kernel), mg 826 (by decide +kernel), _, rfl, rfl⟩
def y_X10_stayed : MethodName := ⟨"ActsPaidModel", "stayed", "(I)I"⟩
def t_X10_stayed : List (Nat × Ao) := [
  (0, (9, 0, 0, 0, 0, 0, [])),
  (1, (7, 0, 0, 1, 0, 0, [])),
  (2, (62, 0, 0, 95, 0, 0, [])),
  (5, (42, 0, 0, 10, 0, 0, [])),
  (8, (0, (-1), 0, 0, 0, 0, [])),
  (9, (64, 0, 0, 0, 0, 0, [])),
  (10, (0, 0, 0, 0, 0, 0, [])),
  (11, (13, 0, 0, 2, 0, 0, [])),
  (12, (0, 0, 0, 0, 0, 0, [])),
  (13, (13, 0, 0, 3, 0, 0, [])),
  (14, (7, 0, 0, 3, 0, 0, [])),
  (15, (1, 8, 0, 0, 0, 0, [])),
  (17, (50, 0, 0, 54, 0, 0, [])),
  (20, (7, 0, 0, 2, 0, 0, [])),
  (21, (9, 0, 0, 0, 0, 0, [])),
  (22, (55, 0, 0, 75, 289, 669, [])),
  (25, (7, 0, 0, 3, 0, 0, [])),
  (26, (63, 0, 0, 85, 0, 0, [])),
  (29, (41, 0, 0, 45, 0, 0, [])),
  (32, (9, 0, 0, 0, 0, 0, [])),
  (33, (7, 0, 0, 3, 0, 0, [])),
  (34, (62, 0, 0, 120, 0, 0, [])),
  (37, (7, 0, 0, 1, 0, 0, [])),
  (38, (52, 0, 0, 45, 0, 0, [])),
  (41, (0, 1, 0, 0, 0, 0, [])),
  (42, (40, 0, 0, 46, 0, 0, [])),
  (45, (0, 0, 0, 0, 0, 0, [])),
  (46, (19, 0, 0, 0, 0, 0, [])),
  (47, (13, 0, 0, 2, 0, 0, [])),
  (48, (39, 1, 0, 3, 0, 0, [])),
  (51, (40, 0, 0, 14, 0, 0, [])),
  (54, (7, 0, 0, 2, 0, 0, [])),
  (55, (64, 0, 0, 0, 0, 0, []))]
def e_X10_stayed : Ev := (t_X10_stayed, [(85, (2, 1, 0, 0, s_X10_has)), (95, (2, 1, 0, 10, s_X10_isAct)), (120, (2, 1, 0, 10, s_X10_leavesAt))], 1, 0, false, 0, fun _ => 0)
def s_X10_stayed : Sp := spc e_X10_stayed 4
theorem m_X10_stayed : monoE e_X10_stayed := monoE_of (cons_all (p_X10_has) (cons_all (p_X10_isAct) (cons_all (p_X10_leavesAt) nil_all)))
theorem p_X10_stayed : mono s_X10_stayed := spc_mono m_X10_stayed _
theorem k_X10_stayed (l : Launch) : Con l y_X10_stayed prog_12_method_25_code 4 (Option.some Jvm.ClassFile.FieldType.int) { frames := 2, cells := 0, slots := 0, locals := 47 } 1 0 s_X10_stayed := con_of l e_X10_stayed y_X10_stayed prog_12_method_25_code 4 (Option.some Jvm.ClassFile.FieldType.int) _ (by decide +kernel) (cons_all (clS (k_X10_has l) f_X10_has ⟨rfl, rfl, Nat.le_of_ble_eq_true rfl, Nat.le_of_ble_eq_true rfl⟩ (mg 786 (by decide +kernel))) (cons_all (clV (k_X10_isAct l) f_X10_isAct ⟨rfl, rfl, Nat.le_of_ble_eq_true rfl, Nat.le_of_ble_eq_true rfl⟩ (mg 782 (by decide +kernel))) (cons_all (clV (k_X10_leavesAt l) f_X10_leavesAt ⟨rfl, rfl, Nat.le_of_ble_eq_true rfl, Nat.le_of_ble_eq_true rfl⟩ (mg 816 (by decide +kernel))) nil_all))) (Or.inl (by decide +kernel))
theorem f_X10_stayed : calV y_X10_stayed prog_12_method_25_code 4 (Option.some Jvm.ClassFile.FieldType.int) 2 9 := ⟨⟨mem_g (i := 839) (by decide +kernel) rfl, mg 34 (by decide +kernel)⟩, by decide +kernel, by decide +kernel, by decide, mg 837 (by decide +kernel), mg 838 (by decide +kernel), _, rfl, rfl⟩
def y_X10_fares : MethodName := ⟨"ActsPaidModel", "fares", "(I)I"⟩
def t_X10_fares : List (Nat × Ao) := [
  (0, (7, 0, 0, 1, 0, 0, [])),
  (1, (0, 0, 0, 0, 0, 0, [])),
  (2, (0, 2, 0, 0, 0, 0, [])),
  (3, (63, 0, 0, 81, 0, 0, [])),
  (6, (42, 0, 0, 12, 0, 0, [])),
  (9, (1, (-2), 0, 0, 0, 0, [])),
  (11, (64, 0, 0, 0, 0, 0, [])),
  (12, (9, 0, 0, 0, 0, 0, [])),
  (13, (55, 0, 0, 13, 290, 670, [])),
  (16, (13, 0, 0, 2, 0, 0, [])),
  (17, (9, 0, 0, 0, 0, 0, [])),
  (18, (55, 0, 0, 16, 291, 671, [])),
  (21, (13, 0, 0, 3, 0, 0, [])),
  (22, (1, (-6), 0, 0, 0, 0, [])),
  (24, (14, 0, 0, 4, 0, 0, [])),
  (26, (0, 0, 0, 0, 0, 0, [])),
  (27, (14, 0, 0, 5, 0, 0, [])),
  (29, (0, 0, 0, 0, 0, 0, [])),
  (30, (14, 0, 0, 6, 0, 0, [])),
  (32, (8, 0, 0, 6, 0, 0, [])),
  (34, (2, 310, 0, 0, 0, 0, [])),
  (37, (50, 0, 0, 102, 0, 0, [])),
  (40, (9, 0, 0, 0, 0, 0, [])),
  (41, (8, 0, 0, 6, 0, 0, [])),
  (43, (1, 10, 0, 0, 0, 0, [])),
  (45, (22, 0, 0, 0, 0, 0, [])),
  (46, (56, 0, 0, 13, 290, 670, [])),
  (49, (9, 0, 0, 0, 0, 0, [])),
  (50, (8, 0, 0, 6, 0, 0, [])),
  (52, (1, 10, 0, 0, 0, 0, [])),
  (54, (23, 0, 0, 0, 0, 0, [])),
  (55, (56, 0, 0, 16, 291, 671, [])),
  (58, (9, 0, 0, 0, 0, 0, [])),
  (59, (62, 0, 0, 126, 0, 0, [])),
  (62, (14, 0, 0, 7, 0, 0, [])),
  (64, (8, 0, 0, 7, 0, 0, [])),
  (66, (8, 0, 0, 4, 0, 0, [])),
  (68, (52, 0, 0, 76, 0, 0, [])),
  (71, (8, 0, 0, 6, 0, 0, [])),
  (73, (40, 0, 0, 78, 0, 0, [])),
  (76, (8, 0, 0, 5, 0, 0, [])),
  (78, (14, 0, 0, 5, 0, 0, [])),
  (80, (8, 0, 0, 7, 0, 0, [])),
  (82, (8, 0, 0, 4, 0, 0, [])),
  (84, (52, 0, 0, 92, 0, 0, [])),
  (87, (8, 0, 0, 7, 0, 0, [])),
  (89, (40, 0, 0, 94, 0, 0, [])),
  (92, (8, 0, 0, 4, 0, 0, [])),
  (94, (14, 0, 0, 4, 0, 0, [])),
  (96, (39, 1, 0, 6, 0, 0, [])),
  (99, (40, 0, 0, 32, 0, 0, [])),
  (102, (9, 0, 0, 0, 0, 0, [])),
  (103, (7, 0, 0, 2, 0, 0, [])),
  (104, (56, 0, 0, 13, 290, 670, [])),
  (107, (9, 0, 0, 0, 0, 0, [])),
  (108, (7, 0, 0, 3, 0, 0, [])),
  (109, (56, 0, 0, 16, 291, 671, [])),
  (112, (7, 0, 0, 1, 0, 0, [])),
  (113, (42, 0, 0, 124, 0, 0, [])),
  (116, (8, 0, 0, 5, 0, 0, [])),
  (118, (1, 10, 0, 0, 0, 0, [])),
  (120, (22, 0, 0, 0, 0, 0, [])),
  (121, (40, 0, 0, 139, 0, 0, [])),
  (124, (7, 0, 0, 1, 0, 0, [])),
  (125, (0, 1, 0, 0, 0, 0, [])),
  (126, (48, 0, 0, 137, 0, 0, [])),
  (129, (8, 0, 0, 5, 0, 0, [])),
  (131, (1, 10, 0, 0, 0, 0, [])),
  (133, (23, 0, 0, 0, 0, 0, [])),
  (134, (40, 0, 0, 139, 0, 0, [])),
  (137, (8, 0, 0, 4, 0, 0, [])),
  (139, (64, 0, 0, 0, 0, 0, []))]
def e_X10_fares : Ev := (t_X10_fares, [(81, (3, 1, 0, 0, s_X10_in)), (126, (1, 1, 0, 10, s_X10_allTakings))], 1, 0, false, 0, fun _ => 0)
def s_X10_fares : Sp := spc e_X10_fares 8
theorem m_X10_fares : monoE e_X10_fares := monoE_of (cons_all (p_X10_in) (cons_all (p_X10_allTakings) nil_all))
theorem p_X10_fares : mono s_X10_fares := spc_mono m_X10_fares _
theorem k_X10_fares (l : Launch) : Con l y_X10_fares prog_12_method_26_code 8 (Option.some Jvm.ClassFile.FieldType.int) { frames := 4, cells := 0, slots := 0, locals := 90 } 1 0 s_X10_fares := con_of l e_X10_fares y_X10_fares prog_12_method_26_code 8 (Option.some Jvm.ClassFile.FieldType.int) _ (by decide +kernel) (cons_all (clS (k_X10_in l) f_X10_in ⟨rfl, rfl, Nat.le_of_ble_eq_true rfl, Nat.le_of_ble_eq_true rfl⟩ (mg 755 (by decide +kernel))) (cons_all (clV (k_X10_allTakings l) f_X10_allTakings ⟨rfl, rfl, Nat.le_of_ble_eq_true rfl, Nat.le_of_ble_eq_true rfl⟩ (mg 828 (by decide +kernel))) nil_all)) (Or.inl (by decide +kernel))
theorem f_X10_fares : calV y_X10_fares prog_12_method_26_code 8 (Option.some Jvm.ClassFile.FieldType.int) 2 9 := ⟨⟨mem_g (i := 843) (by decide +kernel) rfl, mg 34 (by decide +kernel)⟩, by decide +kernel, by decide +kernel, by decide, mg 841 (by decide +kernel), mg 842 (by decide +kernel), _, rfl, rfl⟩
def y_X10_isAhead : MethodName := ⟨"ActsPaidModel", "isAhead", "(II)Z"⟩
def t_X10_isAhead : List (Nat × Ao) := [
  (0, (9, 0, 0, 0, 0, 0, [])),
  (1, (55, 0, 0, 29, 296, 676, [])),
  (4, (7, 0, 0, 1, 0, 0, [])),
  (5, (57, 0, 0, 0, 0, 0, [])),
  (6, (13, 0, 0, 3, 0, 0, [])),
  (7, (0, 0, 0, 0, 0, 0, [])),
  (8, (14, 0, 0, 4, 0, 0, [])),
  (10, (8, 0, 0, 4, 0, 0, [])),
  (12, (1, 6, 0, 0, 0, 0, [])),
  (14, (50, 0, 0, 62, 0, 0, [])),
  (17, (0, 0, 0, 0, 0, 0, [])),
  (18, (14, 0, 0, 5, 0, 0, [])),
  (20, (8, 0, 0, 5, 0, 0, [])),
  (22, (1, 6, 0, 0, 0, 0, [])),
  (24, (50, 0, 0, 56, 0, 0, [])),
  (27, (7, 0, 0, 3, 0, 0, [])),
  (28, (7, 0, 0, 3, 0, 0, [])),
  (29, (8, 0, 0, 5, 0, 0, [])),
  (31, (63, 0, 0, 85, 0, 0, [])),
  (34, (41, 0, 0, 47, 0, 0, [])),
  (37, (9, 0, 0, 0, 0, 0, [])),
  (38, (55, 0, 0, 29, 296, 676, [])),
  (41, (8, 0, 0, 5, 0, 0, [])),
  (43, (57, 0, 0, 0, 0, 0, [])),
  (44, (40, 0, 0, 48, 0, 0, [])),
  (47, (0, 0, 0, 0, 0, 0, [])),
  (48, (26, 0, 0, 0, 0, 0, [])),
  (49, (13, 0, 0, 3, 0, 0, [])),
  (50, (39, 1, 0, 5, 0, 0, [])),
  (53, (40, 0, 0, 20, 0, 0, [])),
  (56, (39, 1, 0, 4, 0, 0, [])),
  (59, (40, 0, 0, 10, 0, 0, [])),
  (62, (7, 0, 0, 3, 0, 0, [])),
  (63, (7, 0, 0, 2, 0, 0, [])),
  (64, (63, 0, 0, 85, 0, 0, [])),
  (67, (64, 0, 0, 0, 0, 0, []))]
def e_X10_isAhead : Ev := (t_X10_isAhead, [(85, (2, 1, 0, 0, s_X10_has))], 4, 0, false, 0, fun _ => 0)
def s_X10_isAhead : Sp := spc e_X10_isAhead 6
theorem m_X10_isAhead : monoE e_X10_isAhead := monoE_of (cons_all (p_X10_has) nil_all)
theorem p_X10_isAhead : mono s_X10_isAhead := spc_mono m_X10_isAhead _
theorem k_X10_isAhead (l : Launch) : Con l y_X10_isAhead prog_12_method_27_code 6 (Option.some Jvm.ClassFile.FieldType.boolean) { frames := 1, cells := 0, slots := 0, locals := 21 } 1 0 s_X10_isAhead := con_of l e_X10_isAhead y_X10_isAhead prog_12_method_27_code 6 (Option.some Jvm.ClassFile.FieldType.boolean) _ (by decide +kernel) (cons_all (clS (k_X10_has l) f_X10_has ⟨rfl, rfl, Nat.le_of_ble_eq_true rfl, Nat.le_of_ble_eq_true rfl⟩ (mg 786 (by decide +kernel))) nil_all) (Or.inl (by decide +kernel))
theorem f_X10_isAhead : calV y_X10_isAhead prog_12_method_27_code 6 (Option.some Jvm.ClassFile.FieldType.boolean) 3 9 := ⟨⟨mem_g (i := 851) (by decide +kernel) rfl, mg 34 (by decide +kernel)⟩, by decide +kernel, by decide +kernel, by decide, mg 850 (by decide +kernel), mg 11 (by decide +kernel), _, rfl, rfl⟩
def y_X10_must : MethodName := ⟨"ActsPaidModel", "must", "(II)I"⟩
def t_X10_must : List (Nat × Ao) := [
  (0, (9, 0, 0, 0, 0, 0, [])),
  (1, (7, 0, 0, 1, 0, 0, [])),
  (2, (62, 0, 0, 95, 0, 0, [])),
  (5, (41, 0, 0, 21, 0, 0, [])),
  (8, (9, 0, 0, 0, 0, 0, [])),
  (9, (7, 0, 0, 2, 0, 0, [])),
  (10, (62, 0, 0, 95, 0, 0, [])),
  (13, (41, 0, 0, 21, 0, 0, [])),
  (16, (7, 0, 0, 1, 0, 0, [])),
  (17, (7, 0, 0, 2, 0, 0, [])),
  (18, (48, 0, 0, 23, 0, 0, [])),
  (21, (0, (-1), 0, 0, 0, 0, [])),
  (22, (64, 0, 0, 0, 0, 0, [])),
  (23, (9, 0, 0, 0, 0, 0, [])),
  (24, (7, 0, 0, 2, 0, 0, [])),
  (25, (7, 0, 0, 1, 0, 0, [])),
  (26, (62, 0, 0, 129, 0, 0, [])),
  (29, (41, 0, 0, 35, 0, 0, [])),
  (32, (1, (-3), 0, 0, 0, 0, [])),
  (34, (64, 0, 0, 0, 0, 0, [])),
  (35, (9, 0, 0, 0, 0, 0, [])),
  (36, (55, 0, 0, 29, 296, 676, [])),
  (39, (7, 0, 0, 1, 0, 0, [])),
  (40, (38, 0, 0, 0, 0, 0, [])),
  (41, (57, 0, 0, 0, 0, 0, [])),
  (42, (0, 1, 0, 0, 0, 0, [])),
  (43, (7, 0, 0, 2, 0, 0, [])),
  (44, (28, 0, 0, 0, 0, 0, [])),
  (45, (26, 0, 0, 0, 0, 0, [])),
  (46, (58, 0, 0, 0, 0, 0, [])),
  (47, (0, 1, 0, 0, 0, 0, [])),
  (48, (64, 0, 0, 0, 0, 0, []))]
def e_X10_must : Ev := (t_X10_must, [(95, (2, 1, 0, 10, s_X10_isAct)), (129, (3, 1, 0, 10, s_X10_isAhead))], 1, 0, false, 0, fun _ => 0)
def s_X10_must : Sp := spc e_X10_must 3
theorem m_X10_must : monoE e_X10_must := monoE_of (cons_all (p_X10_isAct) (cons_all (p_X10_isAhead) nil_all))
theorem p_X10_must : mono s_X10_must := spc_mono m_X10_must _
theorem k_X10_must (l : Launch) : Con l y_X10_must prog_12_method_28_code 3 (Option.some Jvm.ClassFile.FieldType.int) { frames := 2, cells := 0, slots := 0, locals := 46 } 1 0 s_X10_must := con_of l e_X10_must y_X10_must prog_12_method_28_code 3 (Option.some Jvm.ClassFile.FieldType.int) _ (by decide +kernel) (cons_all (clV (k_X10_isAct l) f_X10_isAct ⟨rfl, rfl, Nat.le_of_ble_eq_true rfl, Nat.le_of_ble_eq_true rfl⟩ (mg 782 (by decide +kernel))) (cons_all (clV (k_X10_isAhead l) f_X10_isAhead ⟨rfl, rfl, Nat.le_of_ble_eq_true rfl, Nat.le_of_ble_eq_true rfl⟩ (mg 848 (by decide +kernel))) nil_all)) (Or.inl (by decide +kernel))
theorem f_X10_must : calV y_X10_must prog_12_method_28_code 3 (Option.some Jvm.ClassFile.FieldType.int) 3 9 := ⟨⟨mem_g (i := 847) (by decide +kernel) rfl, mg 34 (by decide +kernel)⟩, by decide +kernel, by decide +kernel, by decide, mg 845 (by decide +kernel), mg 846 (by decide +kernel), _, rfl, rfl⟩
def y_X10_firstRow : MethodName := ⟨"ActsPaidModel", "firstRow", "(I)V"⟩
def t_X10_firstRow : List (Nat × Ao) := [
  (0, (0, 0, 0, 0, 0, 0, [])),
  (1, (13, 0, 0, 2, 0, 0, [])),
  (2, (7, 0, 0, 2, 0, 0, [])),
  (3, (7, 0, 0, 1, 0, 0, [])),
  (4, (50, 0, 0, 20, 0, 0, [])),
  (7, (9, 0, 0, 0, 0, 0, [])),
  (8, (55, 0, 0, 44, 304, 684, [])),
  (11, (7, 0, 0, 2, 0, 0, [])),
  (12, (7, 0, 0, 2, 0, 0, [])),
  (13, (58, 0, 0, 0, 0, 0, [])),
  (14, (39, 1, 0, 2, 0, 0, [])),
  (17, (40, 0, 0, 2, 0, 0, [])),
  (20, (66, 0, 0, 0, 0, 0, []))]
def e_X10_firstRow : Ev := (t_X10_firstRow, [], 0, 0, false, 0, fun _ => 0)
def s_X10_firstRow : Sp := spc e_X10_firstRow 3
theorem m_X10_firstRow : monoE e_X10_firstRow := monoE_of nil_all
theorem p_X10_firstRow : mono s_X10_firstRow := spc_mono m_X10_firstRow _
theorem k_X10_firstRow (l : Launch) : Con l y_X10_firstRow prog_12_method_29_code 3 (Option.none : Option Jvm.ClassFile.FieldType) { frames := 0, cells := 0, slots := 0, locals := 0 } 0 0 s_X10_firstRow := con_of l e_X10_firstRow y_X10_firstRow prog_12_method_29_code 3 (Option.none : Option Jvm.ClassFile.FieldType) _ (by decide +kernel) nil_all (Or.inl (by decide +kernel))
theorem f_X10_firstRow : calV y_X10_firstRow prog_12_method_29_code 3 (Option.none : Option Jvm.ClassFile.FieldType) 2 9 := ⟨⟨mem_g (i := 859) (by decide +kernel) rfl, mg 34 (by decide +kernel)⟩, by decide +kernel, by decide +kernel, by decide, mg 858 (by decide +kernel), mg 12 (by decide +kernel), _, rfl, rfl⟩
def y_X10_change : MethodName := ⟨"ActsPaidModel", "change", "(II)V"⟩
def t_X10_change : List (Nat × Ao) := [
  (0, (9, 0, 0, 0, 0, 0, [])),
  (1, (55, 0, 0, 44, 304, 684, [])),
  (4, (7, 0, 0, 1, 0, 0, [])),
  (5, (57, 0, 0, 0, 0, 0, [])),
  (6, (13, 0, 0, 3, 0, 0, [])),
  (7, (9, 0, 0, 0, 0, 0, [])),
  (8, (55, 0, 0, 44, 304, 684, [])),
  (11, (7, 0, 0, 1, 0, 0, [])),
  (12, (9, 0, 0, 0, 0, 0, [])),
  (13, (55, 0, 0, 44, 304, 684, [])),
  (16, (7, 0, 0, 2, 0, 0, [])),
  (17, (57, 0, 0, 0, 0, 0, [])),
  (18, (58, 0, 0, 0, 0, 0, [])),
  (19, (9, 0, 0, 0, 0, 0, [])),
  (20, (55, 0, 0, 44, 304, 684, [])),
  (23, (7, 0, 0, 2, 0, 0, [])),
  (24, (7, 0, 0, 3, 0, 0, [])),
  (25, (58, 0, 0, 0, 0, 0, [])),
  (26, (66, 0, 0, 0, 0, 0, []))]
def e_X10_change : Ev := (t_X10_change, [], 0, 0, false, 0, fun _ => 0)
def s_X10_change : Sp := spc e_X10_change 4
theorem m_X10_change : monoE e_X10_change := monoE_of nil_all
theorem p_X10_change : mono s_X10_change := spc_mono m_X10_change _
theorem k_X10_change (l : Launch) : Con l y_X10_change prog_12_method_31_code 4 (Option.none : Option Jvm.ClassFile.FieldType) { frames := 0, cells := 0, slots := 0, locals := 0 } 0 0 s_X10_change := con_of l e_X10_change y_X10_change prog_12_method_31_code 4 (Option.none : Option Jvm.ClassFile.FieldType) _ (by decide +kernel) nil_all (Or.inl (by decide +kernel))
theorem f_X10_change : calV y_X10_change prog_12_method_31_code 4 (Option.none : Option Jvm.ClassFile.FieldType) 3 9 := ⟨⟨mem_g (i := 871) (by decide +kernel) rfl, mg 34 (by decide +kernel)⟩, by decide +kernel, by decide +kernel, by decide, mg 870 (by decide +kernel), mg 15 (by decide +kernel), _, rfl, rfl⟩
def y_X10_nextRow : MethodName := ⟨"ActsPaidModel", "nextRow", "(I)Z"⟩
def t_X10_nextRow : List (Nat × Ao) := [
  (0, (7, 0, 0, 1, 0, 0, [])),
  (1, (0, 2, 0, 0, 0, 0, [])),
  (2, (20, 0, 0, 0, 0, 0, [])),
  (3, (13, 0, 0, 2, 0, 0, [])),
  (4, (7, 0, 0, 2, 0, 0, [])),
  (5, (43, 0, 0, 31, 0, 0, [])),
  (8, (9, 0, 0, 0, 0, 0, [])),
  (9, (55, 0, 0, 44, 304, 684, [])),
  (12, (7, 0, 0, 2, 0, 0, [])),
  (13, (57, 0, 0, 0, 0, 0, [])),
  (14, (9, 0, 0, 0, 0, 0, [])),
  (15, (55, 0, 0, 44, 304, 684, [])),
  (18, (7, 0, 0, 2, 0, 0, [])),
  (19, (0, 1, 0, 0, 0, 0, [])),
  (20, (19, 0, 0, 0, 0, 0, [])),
  (21, (57, 0, 0, 0, 0, 0, [])),
  (22, (52, 0, 0, 31, 0, 0, [])),
  (25, (39, (-1), 0, 2, 0, 0, [])),
  (28, (40, 0, 0, 4, 0, 0, [])),
  (31, (7, 0, 0, 2, 0, 0, [])),
  (32, (44, 0, 0, 37, 0, 0, [])),
  (35, (0, 0, 0, 0, 0, 0, [])),
  (36, (64, 0, 0, 0, 0, 0, [])),
  (37, (7, 0, 0, 1, 0, 0, [])),
  (38, (0, 1, 0, 0, 0, 0, [])),
  (39, (20, 0, 0, 0, 0, 0, [])),
  (40, (13, 0, 0, 3, 0, 0, [])),
  (41, (9, 0, 0, 0, 0, 0, [])),
  (42, (55, 0, 0, 44, 304, 684, [])),
  (45, (7, 0, 0, 3, 0, 0, [])),
  (46, (57, 0, 0, 0, 0, 0, [])),
  (47, (9, 0, 0, 0, 0, 0, [])),
  (48, (55, 0, 0, 44, 304, 684, [])),
  (51, (7, 0, 0, 2, 0, 0, [])),
  (52, (57, 0, 0, 0, 0, 0, [])),
  (53, (50, 0, 0, 62, 0, 0, [])),
  (56, (39, (-1), 0, 3, 0, 0, [])),
  (59, (40, 0, 0, 41, 0, 0, [])),
  (62, (9, 0, 0, 0, 0, 0, [])),
  (63, (7, 0, 0, 2, 0, 0, [])),
  (64, (7, 0, 0, 3, 0, 0, [])),
  (65, (62, 0, 0, 132, 0, 0, [])),
  (68, (7, 0, 0, 2, 0, 0, [])),
  (69, (0, 1, 0, 0, 0, 0, [])),
  (70, (19, 0, 0, 0, 0, 0, [])),
  (71, (14, 0, 0, 4, 0, 0, [])),
  (73, (7, 0, 0, 1, 0, 0, [])),
  (74, (0, 1, 0, 0, 0, 0, [])),
  (75, (20, 0, 0, 0, 0, 0, [])),
  (76, (14, 0, 0, 5, 0, 0, [])),
  (78, (8, 0, 0, 4, 0, 0, [])),
  (80, (8, 0, 0, 5, 0, 0, [])),
  (82, (50, 0, 0, 102, 0, 0, [])),
  (85, (9, 0, 0, 0, 0, 0, [])),
  (86, (8, 0, 0, 4, 0, 0, [])),
  (88, (8, 0, 0, 5, 0, 0, [])),
  (90, (62, 0, 0, 132, 0, 0, [])),
  (93, (39, 1, 0, 4, 0, 0, [])),
  (96, (39, (-1), 0, 5, 0, 0, [])),
  (99, (40, 0, 0, 78, 0, 0, [])),
  (102, (0, 1, 0, 0, 0, 0, [])),
  (103, (64, 0, 0, 0, 0, 0, []))]
def e_X10_nextRow : Ev := (t_X10_nextRow, [(132, (3, 0, 0, 10, s_X10_change))], 4, 0, false, 0, fun _ => 0)
def s_X10_nextRow : Sp := spc e_X10_nextRow 6
theorem m_X10_nextRow : monoE e_X10_nextRow := monoE_of (cons_all (p_X10_change) nil_all)
theorem p_X10_nextRow : mono s_X10_nextRow := spc_mono m_X10_nextRow _
theorem k_X10_nextRow (l : Launch) : Con l y_X10_nextRow prog_12_method_30_code 6 (Option.some Jvm.ClassFile.FieldType.boolean) { frames := 1, cells := 0, slots := 0, locals := 23 } 1 0 s_X10_nextRow := con_of l e_X10_nextRow y_X10_nextRow prog_12_method_30_code 6 (Option.some Jvm.ClassFile.FieldType.boolean) _ (by decide +kernel) (cons_all (clV (k_X10_change l) f_X10_change ⟨rfl, rfl, Nat.le_of_ble_eq_true rfl, Nat.le_of_ble_eq_true rfl⟩ (mg 868 (by decide +kernel))) nil_all) (Or.inl (by decide +kernel))
theorem f_X10_nextRow : calV y_X10_nextRow prog_12_method_30_code 6 (Option.some Jvm.ClassFile.FieldType.boolean) 2 9 := ⟨⟨mem_g (i := 867) (by decide +kernel) rfl, mg 34 (by decide +kernel)⟩, by decide +kernel, by decide +kernel, by decide, mg 866 (by decide +kernel), mg 14 (by decide +kernel), _, rfl, rfl⟩
def y_X10_keepsMust : MethodName := ⟨"ActsPaidModel", "keepsMust", "()Z"⟩
def t_X10_keepsMust : List (Nat × Ao) := [
  (0, (0, 1, 0, 0, 0, 0, [])),
  (1, (13, 0, 0, 1, 0, 0, [])),
  (2, (0, 0, 0, 0, 0, 0, [])),
  (3, (13, 0, 0, 2, 0, 0, [])),
  (4, (0, 0, 0, 0, 0, 0, [])),
  (5, (13, 0, 0, 3, 0, 0, [])),
  (6, (7, 0, 0, 3, 0, 0, [])),
  (7, (9, 0, 0, 0, 0, 0, [])),
  (8, (55, 0, 0, 7, 288, 668, [])),
  (11, (50, 0, 0, 57, 0, 0, [])),
  (14, (7, 0, 0, 2, 0, 0, [])),
  (15, (0, 1, 0, 0, 0, 0, [])),
  (16, (9, 0, 0, 0, 0, 0, [])),
  (17, (55, 0, 0, 44, 304, 684, [])),
  (20, (7, 0, 0, 3, 0, 0, [])),
  (21, (57, 0, 0, 0, 0, 0, [])),
  (22, (28, 0, 0, 0, 0, 0, [])),
  (23, (26, 0, 0, 0, 0, 0, [])),
  (24, (13, 0, 0, 2, 0, 0, [])),
  (25, (7, 0, 0, 1, 0, 0, [])),
  (26, (41, 0, 0, 49, 0, 0, [])),
  (29, (9, 0, 0, 0, 0, 0, [])),
  (30, (55, 0, 0, 29, 296, 676, [])),
  (33, (9, 0, 0, 0, 0, 0, [])),
  (34, (55, 0, 0, 44, 304, 684, [])),
  (37, (7, 0, 0, 3, 0, 0, [])),
  (38, (57, 0, 0, 0, 0, 0, [])),
  (39, (57, 0, 0, 0, 0, 0, [])),
  (40, (7, 0, 0, 2, 0, 0, [])),
  (41, (25, 0, 0, 0, 0, 0, [])),
  (42, (42, 0, 0, 49, 0, 0, [])),
  (45, (0, 1, 0, 0, 0, 0, [])),
  (46, (40, 0, 0, 50, 0, 0, [])),
  (49, (0, 0, 0, 0, 0, 0, [])),
  (50, (13, 0, 0, 1, 0, 0, [])),
  (51, (39, 1, 0, 3, 0, 0, [])),
  (54, (40, 0, 0, 6, 0, 0, [])),
  (57, (7, 0, 0, 1, 0, 0, [])),
  (58, (64, 0, 0, 0, 0, 0, []))]
def e_X10_keepsMust : Ev := (t_X10_keepsMust, [], 4, 0, false, 0, fun _ => 0)
def s_X10_keepsMust : Sp := spc e_X10_keepsMust 4
theorem m_X10_keepsMust : monoE e_X10_keepsMust := monoE_of nil_all
theorem p_X10_keepsMust : mono s_X10_keepsMust := spc_mono m_X10_keepsMust _
theorem k_X10_keepsMust (l : Launch) : Con l y_X10_keepsMust prog_12_method_32_code 4 (Option.some Jvm.ClassFile.FieldType.boolean) { frames := 0, cells := 0, slots := 0, locals := 0 } 1 0 s_X10_keepsMust := con_of l e_X10_keepsMust y_X10_keepsMust prog_12_method_32_code 4 (Option.some Jvm.ClassFile.FieldType.boolean) _ (by decide +kernel) nil_all (Or.inl (by decide +kernel))
theorem f_X10_keepsMust : calV y_X10_keepsMust prog_12_method_32_code 4 (Option.some Jvm.ClassFile.FieldType.boolean) 1 9 := ⟨⟨mem_g (i := 863) (by decide +kernel) rfl, mg 34 (by decide +kernel)⟩, by decide +kernel, by decide +kernel, by decide, mg 862 (by decide +kernel), mg 13 (by decide +kernel), _, rfl, rfl⟩
def y_X10_order : MethodName := ⟨"ActsPaidModel", "order", "(I)I"⟩
def t_X10_order : List (Nat × Ao) := [
  (0, (0, 0, 0, 0, 0, 0, [])),
  (1, (13, 0, 0, 2, 0, 0, [])),
  (2, (7, 0, 0, 2, 0, 0, [])),
  (3, (9, 0, 0, 0, 0, 0, [])),
  (4, (55, 0, 0, 7, 288, 668, [])),
  (7, (50, 0, 0, 28, 0, 0, [])),
  (10, (9, 0, 0, 0, 0, 0, [])),
  (11, (55, 0, 0, 47, 305, 685, [])),
  (14, (7, 0, 0, 2, 0, 0, [])),
  (15, (9, 0, 0, 0, 0, 0, [])),
  (16, (55, 0, 0, 26, 295, 675, [])),
  (19, (7, 0, 0, 2, 0, 0, [])),
  (20, (57, 0, 0, 0, 0, 0, [])),
  (21, (58, 0, 0, 0, 0, 0, [])),
  (22, (39, 1, 0, 2, 0, 0, [])),
  (25, (40, 0, 0, 2, 0, 0, [])),
  (28, (1, (-6), 0, 0, 0, 0, [])),
  (30, (13, 0, 0, 2, 0, 0, [])),
  (31, (9, 0, 0, 0, 0, 0, [])),
  (32, (9, 0, 0, 0, 0, 0, [])),
  (33, (55, 0, 0, 7, 288, 668, [])),
  (36, (62, 0, 0, 136, 0, 0, [])),
  (39, (0, 1, 0, 0, 0, 0, [])),
  (40, (13, 0, 0, 3, 0, 0, [])),
  (41, (7, 0, 0, 3, 0, 0, [])),
  (42, (41, 0, 0, 153, 0, 0, [])),
  (45, (9, 0, 0, 0, 0, 0, [])),
  (46, (62, 0, 0, 140, 0, 0, [])),
  (49, (41, 0, 0, 141, 0, 0, [])),
  (52, (0, 0, 0, 0, 0, 0, [])),
  (53, (14, 0, 0, 4, 0, 0, [])),
  (55, (8, 0, 0, 4, 0, 0, [])),
  (57, (9, 0, 0, 0, 0, 0, [])),
  (58, (55, 0, 0, 7, 288, 668, [])),
  (61, (50, 0, 0, 84, 0, 0, [])),
  (64, (9, 0, 0, 0, 0, 0, [])),
  (65, (55, 0, 0, 26, 295, 675, [])),
  (68, (8, 0, 0, 4, 0, 0, [])),
  (70, (9, 0, 0, 0, 0, 0, [])),
  (71, (55, 0, 0, 44, 304, 684, [])),
  (74, (8, 0, 0, 4, 0, 0, [])),
  (76, (57, 0, 0, 0, 0, 0, [])),
  (77, (58, 0, 0, 0, 0, 0, [])),
  (78, (39, 1, 0, 4, 0, 0, [])),
  (81, (40, 0, 0, 55, 0, 0, [])),
  (84, (9, 0, 0, 0, 0, 0, [])),
  (85, (62, 0, 0, 126, 0, 0, [])),
  (88, (14, 0, 0, 4, 0, 0, [])),
  (90, (0, 0, 0, 0, 0, 0, [])),
  (91, (14, 0, 0, 5, 0, 0, [])),
  (93, (8, 0, 0, 5, 0, 0, [])),
  (95, (9, 0, 0, 0, 0, 0, [])),
  (96, (55, 0, 0, 7, 288, 668, [])),
  (99, (50, 0, 0, 128, 0, 0, [])),
  (102, (8, 0, 0, 4, 0, 0, [])),
  (104, (7, 0, 0, 2, 0, 0, [])),
  (105, (52, 0, 0, 128, 0, 0, [])),
  (108, (9, 0, 0, 0, 0, 0, [])),
  (109, (55, 0, 0, 50, 306, 686, [])),
  (112, (8, 0, 0, 5, 0, 0, [])),
  (114, (9, 0, 0, 0, 0, 0, [])),
  (115, (55, 0, 0, 44, 304, 684, [])),
  (118, (8, 0, 0, 5, 0, 0, [])),
  (120, (57, 0, 0, 0, 0, 0, [])),
  (121, (58, 0, 0, 0, 0, 0, [])),
  (122, (39, 1, 0, 5, 0, 0, [])),
  (125, (40, 0, 0, 93, 0, 0, [])),
  (128, (8, 0, 0, 4, 0, 0, [])),
  (130, (7, 0, 0, 2, 0, 0, [])),
  (131, (52, 0, 0, 139, 0, 0, [])),
  (134, (8, 0, 0, 4, 0, 0, [])),
  (136, (40, 0, 0, 140, 0, 0, [])),
  (139, (7, 0, 0, 2, 0, 0, [])),
  (140, (13, 0, 0, 2, 0, 0, [])),
  (141, (9, 0, 0, 0, 0, 0, [])),
  (142, (9, 0, 0, 0, 0, 0, [])),
  (143, (55, 0, 0, 7, 288, 668, [])),
  (146, (62, 0, 0, 144, 0, 0, [])),
  (149, (13, 0, 0, 3, 0, 0, [])),
  (150, (40, 0, 0, 41, 0, 0, [])),
  (153, (0, 0, 0, 0, 0, 0, [])),
  (154, (14, 0, 0, 4, 0, 0, [])),
  (156, (8, 0, 0, 4, 0, 0, [])),
  (158, (9, 0, 0, 0, 0, 0, [])),
  (159, (55, 0, 0, 7, 288, 668, [])),
  (162, (50, 0, 0, 185, 0, 0, [])),
  (165, (9, 0, 0, 0, 0, 0, [])),
  (166, (55, 0, 0, 26, 295, 675, [])),
  (169, (8, 0, 0, 4, 0, 0, [])),
  (171, (9, 0, 0, 0, 0, 0, [])),
  (172, (55, 0, 0, 47, 305, 685, [])),
  (175, (8, 0, 0, 4, 0, 0, [])),
  (177, (57, 0, 0, 0, 0, 0, [])),
  (178, (58, 0, 0, 0, 0, 0, [])),
  (179, (39, 1, 0, 4, 0, 0, [])),
  (182, (40, 0, 0, 156, 0, 0, [])),
  (185, (7, 0, 0, 1, 0, 0, [])),
  (186, (0, (-1), 0, 0, 0, 0, [])),
  (187, (48, 0, 0, 194, 0, 0, [])),
  (190, (7, 0, 0, 2, 0, 0, [])),
  (191, (40, 0, 0, 213, 0, 0, [])),
  (194, (9, 0, 0, 0, 0, 0, [])),
  (195, (7, 0, 0, 1, 0, 0, [])),
  (196, (62, 0, 0, 95, 0, 0, [])),
  (199, (41, 0, 0, 211, 0, 0, [])),
  (202, (9, 0, 0, 0, 0, 0, [])),
  (203, (55, 0, 0, 50, 306, 686, [])),
  (206, (7, 0, 0, 1, 0, 0, [])),
  (207, (57, 0, 0, 0, 0, 0, [])),
  (208, (40, 0, 0, 213, 0, 0, [])),
  (211, (1, (-6), 0, 0, 0, 0, [])),
  (213, (64, 0, 0, 0, 0, 0, []))]
def e_X10_order : Ev := (t_X10_order, [(95, (2, 1, 0, 10, s_X10_isAct)), (126, (1, 1, 0, 10, s_X10_allTakings)), (136, (2, 0, 0, 10, s_X10_firstRow)), (140, (1, 1, 0, 10, s_X10_keepsMust)), (144, (2, 1, 0, 10, s_X10_nextRow))], 1, 0, false, 0, fun _ => 0)
def s_X10_order : Sp := spc e_X10_order 6
theorem m_X10_order : monoE e_X10_order := monoE_of (cons_all (p_X10_isAct) (cons_all (p_X10_allTakings) (cons_all (p_X10_firstRow) (cons_all (p_X10_keepsMust) (cons_all (p_X10_nextRow) nil_all)))))
theorem p_X10_order : mono s_X10_order := spc_mono m_X10_order _
theorem k_X10_order (l : Launch) : Con l y_X10_order prog_12_method_33_code 6 (Option.some Jvm.ClassFile.FieldType.int) { frames := 4, cells := 0, slots := 0, locals := 90 } 1 0 s_X10_order := con_of l e_X10_order y_X10_order prog_12_method_33_code 6 (Option.some Jvm.ClassFile.FieldType.int) _ (by decide +kernel) (cons_all (clV (k_X10_isAct l) f_X10_isAct ⟨rfl, rfl, Nat.le_of_ble_eq_true rfl, Nat.le_of_ble_eq_true rfl⟩ (mg 782 (by decide +kernel))) (cons_all (clV (k_X10_allTakings l) f_X10_allTakings ⟨rfl, rfl, Nat.le_of_ble_eq_true rfl, Nat.le_of_ble_eq_true rfl⟩ (mg 828 (by decide +kernel))) (cons_all (clV (k_X10_firstRow l) f_X10_firstRow ⟨rfl, rfl, Nat.le_of_ble_eq_true rfl, Nat.le_of_ble_eq_true rfl⟩ (mg 856 (by decide +kernel))) (cons_all (clV (k_X10_keepsMust l) f_X10_keepsMust ⟨rfl, rfl, Nat.le_of_ble_eq_true rfl, Nat.le_of_ble_eq_true rfl⟩ (mg 860 (by decide +kernel))) (cons_all (clV (k_X10_nextRow l) f_X10_nextRow ⟨rfl, rfl, Nat.le_of_ble_eq_true rfl, Nat.le_of_ble_eq_true rfl⟩ (mg 864 (by decide +kernel))) nil_all))))) (Or.inl (by decide +kernel))
theorem f_X10_order : calV y_X10_order prog_12_method_33_code 6 (Option.some Jvm.ClassFile.FieldType.int) 2 9 := ⟨⟨mem_g (i := 855) (by decide +kernel) rfl, mg 34 (by decide +kernel)⟩, by decide +kernel, by decide +kernel, by decide, mg 853 (by decide +kernel), mg 854 (by decide +kernel), _, rfl, rfl⟩
def y_X10_raise : MethodName := ⟨"ActsPaidModel", "raise", "(II)V"⟩
def t_X10_raise : List (Nat × Ao) := [
  (0, (0, 0, 0, 0, 0, 0, [])),
  (1, (13, 0, 0, 3, 0, 0, [])),
  (2, (7, 0, 0, 3, 0, 0, [])),
  (3, (1, 8, 0, 0, 0, 0, [])),
  (5, (50, 0, 0, 29, 0, 0, [])),
  (8, (9, 0, 0, 0, 0, 0, [])),
  (9, (55, 0, 0, 22, 294, 674, [])),
  (12, (1, 6, 0, 0, 0, 0, [])),
  (14, (7, 0, 0, 3, 0, 0, [])),
  (15, (21, 0, 0, 0, 0, 0, [])),
  (16, (7, 0, 0, 1, 0, 0, [])),
  (17, (19, 0, 0, 0, 0, 0, [])),
  (18, (38, 0, 0, 0, 0, 0, [])),
  (19, (57, 0, 0, 0, 0, 0, [])),
  (20, (7, 0, 0, 2, 0, 0, [])),
  (21, (19, 0, 0, 0, 0, 0, [])),
  (22, (58, 0, 0, 0, 0, 0, [])),
  (23, (39, 1, 0, 3, 0, 0, [])),
  (26, (40, 0, 0, 2, 0, 0, [])),
  (29, (66, 0, 0, 0, 0, 0, []))]
def e_X10_raise : Ev := (t_X10_raise, [], 0, 0, false, 0, fun _ => 0)
def s_X10_raise : Sp := spc e_X10_raise 4
theorem m_X10_raise : monoE e_X10_raise := monoE_of nil_all
theorem p_X10_raise : mono s_X10_raise := spc_mono m_X10_raise _
theorem k_X10_raise (l : Launch) : Con l y_X10_raise prog_12_method_34_code 4 (Option.none : Option Jvm.ClassFile.FieldType) { frames := 0, cells := 0, slots := 0, locals := 0 } 0 0 s_X10_raise := con_of l e_X10_raise y_X10_raise prog_12_method_34_code 4 (Option.none : Option Jvm.ClassFile.FieldType) _ (by decide +kernel) nil_all (Or.inl (by decide +kernel))
theorem f_X10_raise : calV y_X10_raise prog_12_method_34_code 4 (Option.none : Option Jvm.ClassFile.FieldType) 3 9 := ⟨⟨mem_g (i := 879) (by decide +kernel) rfl, mg 34 (by decide +kernel)⟩, by decide +kernel, by decide +kernel, by decide, mg 878 (by decide +kernel), mg 16 (by decide +kernel), _, rfl, rfl⟩
def y_X10_claque : MethodName := ⟨"ActsPaidModel", "claque", "(II)I"⟩
def t_X10_claque : List (Nat × Ao) := [
  (0, (7, 0, 0, 1, 0, 0, [])),
  (1, (0, 1, 0, 0, 0, 0, [])),
  (2, (1, 25, 0, 0, 0, 0, [])),
  (4, (63, 0, 0, 81, 0, 0, [])),
  (7, (41, 0, 0, 19, 0, 0, [])),
  (10, (7, 0, 0, 2, 0, 0, [])),
  (11, (0, 0, 0, 0, 0, 0, [])),
  (12, (0, 1, 0, 0, 0, 0, [])),
  (13, (63, 0, 0, 81, 0, 0, [])),
  (16, (42, 0, 0, 22, 0, 0, [])),
  (19, (1, (-2), 0, 0, 0, 0, [])),
  (21, (64, 0, 0, 0, 0, 0, [])),
  (22, (1, (-6), 0, 0, 0, 0, [])),
  (24, (13, 0, 0, 3, 0, 0, [])),
  (25, (1, (-6), 0, 0, 0, 0, [])),
  (27, (14, 0, 0, 4, 0, 0, [])),
  (29, (0, 0, 0, 0, 0, 0, [])),
  (30, (14, 0, 0, 5, 0, 0, [])),
  (32, (8, 0, 0, 5, 0, 0, [])),
  (34, (9, 0, 0, 0, 0, 0, [])),
  (35, (55, 0, 0, 7, 288, 668, [])),
  (38, (50, 0, 0, 96, 0, 0, [])),
  (41, (9, 0, 0, 0, 0, 0, [])),
  (42, (8, 0, 0, 5, 0, 0, [])),
  (44, (7, 0, 0, 1, 0, 0, [])),
  (45, (62, 0, 0, 147, 0, 0, [])),
  (48, (9, 0, 0, 0, 0, 0, [])),
  (49, (62, 0, 0, 126, 0, 0, [])),
  (52, (14, 0, 0, 6, 0, 0, [])),
  (54, (9, 0, 0, 0, 0, 0, [])),
  (55, (8, 0, 0, 5, 0, 0, [])),
  (57, (7, 0, 0, 1, 0, 0, [])),
  (58, (24, 0, 0, 0, 0, 0, [])),
  (59, (62, 0, 0, 147, 0, 0, [])),
  (62, (8, 0, 0, 6, 0, 0, [])),
  (64, (7, 0, 0, 3, 0, 0, [])),
  (65, (52, 0, 0, 73, 0, 0, [])),
  (68, (8, 0, 0, 5, 0, 0, [])),
  (70, (40, 0, 0, 75, 0, 0, [])),
  (73, (8, 0, 0, 4, 0, 0, [])),
  (75, (14, 0, 0, 4, 0, 0, [])),
  (77, (8, 0, 0, 6, 0, 0, [])),
  (79, (7, 0, 0, 3, 0, 0, [])),
  (80, (52, 0, 0, 88, 0, 0, [])),
  (83, (8, 0, 0, 6, 0, 0, [])),
  (85, (40, 0, 0, 89, 0, 0, [])),
  (88, (7, 0, 0, 3, 0, 0, [])),
  (89, (13, 0, 0, 3, 0, 0, [])),
  (90, (39, 1, 0, 5, 0, 0, [])),
  (93, (40, 0, 0, 32, 0, 0, [])),
  (96, (7, 0, 0, 2, 0, 0, [])),
  (97, (42, 0, 0, 105, 0, 0, [])),
  (100, (8, 0, 0, 4, 0, 0, [])),
  (102, (40, 0, 0, 106, 0, 0, [])),
  (105, (7, 0, 0, 3, 0, 0, [])),
  (106, (64, 0, 0, 0, 0, 0, []))]
def e_X10_claque : Ev := (t_X10_claque, [(81, (3, 1, 0, 0, s_X10_in)), (126, (1, 1, 0, 10, s_X10_allTakings)), (147, (3, 0, 0, 10, s_X10_raise))], 1, 0, false, 0, fun _ => 0)
def s_X10_claque : Sp := spc e_X10_claque 7
theorem m_X10_claque : monoE e_X10_claque := monoE_of (cons_all (p_X10_in) (cons_all (p_X10_allTakings) (cons_all (p_X10_raise) nil_all)))
theorem p_X10_claque : mono s_X10_claque := spc_mono m_X10_claque _
theorem k_X10_claque (l : Launch) : Con l y_X10_claque prog_12_method_35_code 7 (Option.some Jvm.ClassFile.FieldType.int) { frames := 4, cells := 0, slots := 0, locals := 90 } 1 0 s_X10_claque := con_of l e_X10_claque y_X10_claque prog_12_method_35_code 7 (Option.some Jvm.ClassFile.FieldType.int) _ (by decide +kernel) (cons_all (clS (k_X10_in l) f_X10_in ⟨rfl, rfl, Nat.le_of_ble_eq_true rfl, Nat.le_of_ble_eq_true rfl⟩ (mg 755 (by decide +kernel))) (cons_all (clV (k_X10_allTakings l) f_X10_allTakings ⟨rfl, rfl, Nat.le_of_ble_eq_true rfl, Nat.le_of_ble_eq_true rfl⟩ (mg 828 (by decide +kernel))) (cons_all (clV (k_X10_raise l) f_X10_raise ⟨rfl, rfl, Nat.le_of_ble_eq_true rfl, Nat.le_of_ble_eq_true rfl⟩ (mg 876 (by decide +kernel))) nil_all))) (Or.inl (by decide +kernel))
theorem f_X10_claque : calV y_X10_claque prog_12_method_35_code 7 (Option.some Jvm.ClassFile.FieldType.int) 3 9 := ⟨⟨mem_g (i := 875) (by decide +kernel) rfl, mg 34 (by decide +kernel)⟩, by decide +kernel, by decide +kernel, by decide, mg 873 (by decide +kernel), mg 874 (by decide +kernel), _, rfl, rfl⟩
def y_X10_friends : MethodName := ⟨"ActsPaidModel", "friends", "(II)I"⟩
def t_X10_friends : List (Nat × Ao) := [
  (0, (7, 0, 0, 1, 0, 0, [])),
  (1, (0, 0, 0, 0, 0, 0, [])),
  (2, (1, 7, 0, 0, 0, 0, [])),
  (4, (63, 0, 0, 81, 0, 0, [])),
  (7, (41, 0, 0, 25, 0, 0, [])),
  (10, (7, 0, 0, 2, 0, 0, [])),
  (11, (0, 0, 0, 0, 0, 0, [])),
  (12, (1, 7, 0, 0, 0, 0, [])),
  (14, (63, 0, 0, 81, 0, 0, [])),
  (17, (41, 0, 0, 25, 0, 0, [])),
  (20, (7, 0, 0, 1, 0, 0, [])),
  (21, (7, 0, 0, 2, 0, 0, [])),
  (22, (48, 0, 0, 27, 0, 0, [])),
  (25, (0, (-1), 0, 0, 0, 0, [])),
  (26, (64, 0, 0, 0, 0, 0, [])),
  (27, (9, 0, 0, 0, 0, 0, [])),
  (28, (55, 0, 0, 35, 298, 678, [])),
  (31, (7, 0, 0, 1, 0, 0, [])),
  (32, (38, 0, 0, 0, 0, 0, [])),
  (33, (57, 0, 0, 0, 0, 0, [])),
  (34, (0, 1, 0, 0, 0, 0, [])),
  (35, (7, 0, 0, 2, 0, 0, [])),
  (36, (28, 0, 0, 0, 0, 0, [])),
  (37, (26, 0, 0, 0, 0, 0, [])),
  (38, (58, 0, 0, 0, 0, 0, [])),
  (39, (9, 0, 0, 0, 0, 0, [])),
  (40, (55, 0, 0, 35, 298, 678, [])),
  (43, (7, 0, 0, 2, 0, 0, [])),
  (44, (38, 0, 0, 0, 0, 0, [])),
  (45, (57, 0, 0, 0, 0, 0, [])),
  (46, (0, 1, 0, 0, 0, 0, [])),
  (47, (7, 0, 0, 1, 0, 0, [])),
  (48, (28, 0, 0, 0, 0, 0, [])),
  (49, (26, 0, 0, 0, 0, 0, [])),
  (50, (58, 0, 0, 0, 0, 0, [])),
  (51, (0, 1, 0, 0, 0, 0, [])),
  (52, (64, 0, 0, 0, 0, 0, []))]
def e_X10_friends : Ev := (t_X10_friends, [(81, (3, 1, 0, 0, s_X10_in))], 1, 0, false, 0, fun _ => 0)
def s_X10_friends : Sp := spc e_X10_friends 3
theorem m_X10_friends : monoE e_X10_friends := monoE_of (cons_all (p_X10_in) nil_all)
theorem p_X10_friends : mono s_X10_friends := spc_mono m_X10_friends _
theorem k_X10_friends (l : Launch) : Con l y_X10_friends prog_12_method_36_code 3 (Option.some Jvm.ClassFile.FieldType.int) { frames := 1, cells := 0, slots := 0, locals := 22 } 1 0 s_X10_friends := con_of l e_X10_friends y_X10_friends prog_12_method_36_code 3 (Option.some Jvm.ClassFile.FieldType.int) _ (by decide +kernel) (cons_all (clS (k_X10_in l) f_X10_in ⟨rfl, rfl, Nat.le_of_ble_eq_true rfl, Nat.le_of_ble_eq_true rfl⟩ (mg 755 (by decide +kernel))) nil_all) (Or.inl (by decide +kernel))
theorem f_X10_friends : calV y_X10_friends prog_12_method_36_code 3 (Option.some Jvm.ClassFile.FieldType.int) 3 9 := ⟨⟨mem_g (i := 883) (by decide +kernel) rfl, mg 34 (by decide +kernel)⟩, by decide +kernel, by decide +kernel, by decide, mg 881 (by decide +kernel), mg 882 (by decide +kernel), _, rfl, rfl⟩
def y_X10_keepsFriends : MethodName := ⟨"ActsPaidModel", "keepsFriends", "(I)Z"⟩
def t_X10_keepsFriends : List (Nat × Ao) := [
  (0, (0, 1, 0, 0, 0, 0, [])),
  (1, (13, 0, 0, 2, 0, 0, [])),
  (2, (0, 0, 0, 0, 0, 0, [])),
  (3, (13, 0, 0, 3, 0, 0, [])),
  (4, (7, 0, 0, 3, 0, 0, [])),
  (5, (7, 0, 0, 1, 0, 0, [])),
  (6, (50, 0, 0, 114, 0, 0, [])),
  (9, (9, 0, 0, 0, 0, 0, [])),
  (10, (55, 0, 0, 53, 307, 687, [])),
  (13, (9, 0, 0, 0, 0, 0, [])),
  (14, (55, 0, 0, 44, 304, 684, [])),
  (17, (7, 0, 0, 3, 0, 0, [])),
  (18, (57, 0, 0, 0, 0, 0, [])),
  (19, (57, 0, 0, 0, 0, 0, [])),
  (20, (14, 0, 0, 4, 0, 0, [])),
  (22, (7, 0, 0, 3, 0, 0, [])),
  (23, (46, 0, 0, 44, 0, 0, [])),
  (26, (0, 1, 0, 0, 0, 0, [])),
  (27, (9, 0, 0, 0, 0, 0, [])),
  (28, (55, 0, 0, 53, 307, 687, [])),
  (31, (9, 0, 0, 0, 0, 0, [])),
  (32, (55, 0, 0, 44, 304, 684, [])),
  (35, (7, 0, 0, 3, 0, 0, [])),
  (36, (0, 1, 0, 0, 0, 0, [])),
  (37, (20, 0, 0, 0, 0, 0, [])),
  (38, (57, 0, 0, 0, 0, 0, [])),
  (39, (57, 0, 0, 0, 0, 0, [])),
  (40, (28, 0, 0, 0, 0, 0, [])),
  (41, (40, 0, 0, 45, 0, 0, [])),
  (44, (0, 0, 0, 0, 0, 0, [])),
  (45, (14, 0, 0, 5, 0, 0, [])),
  (47, (8, 0, 0, 5, 0, 0, [])),
  (49, (7, 0, 0, 3, 0, 0, [])),
  (50, (0, 1, 0, 0, 0, 0, [])),
  (51, (19, 0, 0, 0, 0, 0, [])),
  (52, (7, 0, 0, 1, 0, 0, [])),
  (53, (50, 0, 0, 74, 0, 0, [])),
  (56, (0, 1, 0, 0, 0, 0, [])),
  (57, (9, 0, 0, 0, 0, 0, [])),
  (58, (55, 0, 0, 53, 307, 687, [])),
  (61, (9, 0, 0, 0, 0, 0, [])),
  (62, (55, 0, 0, 44, 304, 684, [])),
  (65, (7, 0, 0, 3, 0, 0, [])),
  (66, (0, 1, 0, 0, 0, 0, [])),
  (67, (19, 0, 0, 0, 0, 0, [])),
  (68, (57, 0, 0, 0, 0, 0, [])),
  (69, (57, 0, 0, 0, 0, 0, [])),
  (70, (28, 0, 0, 0, 0, 0, [])),
  (71, (40, 0, 0, 75, 0, 0, [])),
  (74, (0, 0, 0, 0, 0, 0, [])),
  (75, (26, 0, 0, 0, 0, 0, [])),
  (76, (14, 0, 0, 5, 0, 0, [])),
  (78, (7, 0, 0, 2, 0, 0, [])),
  (79, (41, 0, 0, 106, 0, 0, [])),
  (82, (9, 0, 0, 0, 0, 0, [])),
  (83, (55, 0, 0, 35, 298, 678, [])),
  (86, (8, 0, 0, 4, 0, 0, [])),
  (88, (57, 0, 0, 0, 0, 0, [])),
  (89, (9, 0, 0, 0, 0, 0, [])),
  (90, (55, 0, 0, 75, 289, 669, [])),
  (93, (25, 0, 0, 0, 0, 0, [])),
  (94, (8, 0, 0, 5, 0, 0, [])),
  (96, (0, (-1), 0, 0, 0, 0, [])),
  (97, (27, 0, 0, 0, 0, 0, [])),
  (98, (25, 0, 0, 0, 0, 0, [])),
  (99, (42, 0, 0, 106, 0, 0, [])),
  (102, (0, 1, 0, 0, 0, 0, [])),
  (103, (40, 0, 0, 107, 0, 0, [])),
  (106, (0, 0, 0, 0, 0, 0, [])),
  (107, (13, 0, 0, 2, 0, 0, [])),
  (108, (39, 1, 0, 3, 0, 0, [])),
  (111, (40, 0, 0, 4, 0, 0, [])),
  (114, (7, 0, 0, 2, 0, 0, [])),
  (115, (64, 0, 0, 0, 0, 0, []))]
def e_X10_keepsFriends : Ev := (t_X10_keepsFriends, [], 4, 0, false, 0, fun _ => 0)
def s_X10_keepsFriends : Sp := spc e_X10_keepsFriends 6
theorem m_X10_keepsFriends : monoE e_X10_keepsFriends := monoE_of nil_all
theorem p_X10_keepsFriends : mono s_X10_keepsFriends := spc_mono m_X10_keepsFriends _
theorem k_X10_keepsFriends (l : Launch) : Con l y_X10_keepsFriends prog_12_method_37_code 6 (Option.some Jvm.ClassFile.FieldType.boolean) { frames := 0, cells := 0, slots := 0, locals := 0 } 1 0 s_X10_keepsFriends := con_of l e_X10_keepsFriends y_X10_keepsFriends prog_12_method_37_code 6 (Option.some Jvm.ClassFile.FieldType.boolean) _ (by decide +kernel) nil_all (Or.inl (by decide +kernel))
theorem f_X10_keepsFriends : calV y_X10_keepsFriends prog_12_method_37_code 6 (Option.some Jvm.ClassFile.FieldType.boolean) 2 9 := ⟨⟨mem_g (i := 895) (by decide +kernel) rfl, mg 34 (by decide +kernel)⟩, by decide +kernel, by decide +kernel, by decide, mg 894 (by decide +kernel), mg 18 (by decide +kernel), _, rfl, rfl⟩
def y_X10_risen : MethodName := ⟨"ActsPaidModel", "risen", "(I)I"⟩
def t_X10_risen : List (Nat × Ao) := [
  (0, (0, 0, 0, 0, 0, 0, [])),
  (1, (13, 0, 0, 2, 0, 0, [])),
  (2, (0, 0, 0, 0, 0, 0, [])),
  (3, (13, 0, 0, 3, 0, 0, [])),
  (4, (7, 0, 0, 3, 0, 0, [])),
  (5, (7, 0, 0, 1, 0, 0, [])),
  (6, (50, 0, 0, 145, 0, 0, [])),
  (9, (0, 0, 0, 0, 0, 0, [])),
  (10, (14, 0, 0, 4, 0, 0, [])),
  (12, (0, 0, 0, 0, 0, 0, [])),
  (13, (14, 0, 0, 5, 0, 0, [])),
  (15, (9, 0, 0, 0, 0, 0, [])),
  (16, (55, 0, 0, 56, 308, 688, [])),
  (19, (9, 0, 0, 0, 0, 0, [])),
  (20, (55, 0, 0, 44, 304, 684, [])),
  (23, (7, 0, 0, 3, 0, 0, [])),
  (24, (57, 0, 0, 0, 0, 0, [])),
  (25, (57, 0, 0, 0, 0, 0, [])),
  (26, (14, 0, 0, 6, 0, 0, [])),
  (28, (0, 0, 0, 0, 0, 0, [])),
  (29, (14, 0, 0, 7, 0, 0, [])),
  (31, (8, 0, 0, 7, 0, 0, [])),
  (33, (7, 0, 0, 1, 0, 0, [])),
  (34, (50, 0, 0, 109, 0, 0, [])),
  (37, (8, 0, 0, 4, 0, 0, [])),
  (39, (8, 0, 0, 7, 0, 0, [])),
  (41, (7, 0, 0, 3, 0, 0, [])),
  (42, (50, 0, 0, 66, 0, 0, [])),
  (45, (9, 0, 0, 0, 0, 0, [])),
  (46, (55, 0, 0, 56, 308, 688, [])),
  (49, (9, 0, 0, 0, 0, 0, [])),
  (50, (55, 0, 0, 44, 304, 684, [])),
  (53, (8, 0, 0, 7, 0, 0, [])),
  (55, (57, 0, 0, 0, 0, 0, [])),
  (56, (57, 0, 0, 0, 0, 0, [])),
  (57, (8, 0, 0, 6, 0, 0, [])),
  (59, (52, 0, 0, 66, 0, 0, [])),
  (62, (0, 1, 0, 0, 0, 0, [])),
  (63, (40, 0, 0, 67, 0, 0, [])),
  (66, (0, 0, 0, 0, 0, 0, [])),
  (67, (19, 0, 0, 0, 0, 0, [])),
  (68, (14, 0, 0, 4, 0, 0, [])),
  (70, (8, 0, 0, 5, 0, 0, [])),
  (72, (8, 0, 0, 7, 0, 0, [])),
  (74, (7, 0, 0, 3, 0, 0, [])),
  (75, (52, 0, 0, 99, 0, 0, [])),
  (78, (9, 0, 0, 0, 0, 0, [])),
  (79, (55, 0, 0, 56, 308, 688, [])),
  (82, (9, 0, 0, 0, 0, 0, [])),
  (83, (55, 0, 0, 44, 304, 684, [])),
  (86, (8, 0, 0, 7, 0, 0, [])),
  (88, (57, 0, 0, 0, 0, 0, [])),
  (89, (57, 0, 0, 0, 0, 0, [])),
  (90, (8, 0, 0, 6, 0, 0, [])),
  (92, (52, 0, 0, 99, 0, 0, [])),
  (95, (0, 1, 0, 0, 0, 0, [])),
  (96, (40, 0, 0, 100, 0, 0, [])),
  (99, (0, 0, 0, 0, 0, 0, [])),
  (100, (19, 0, 0, 0, 0, 0, [])),
  (101, (14, 0, 0, 5, 0, 0, [])),
  (103, (39, 1, 0, 7, 0, 0, [])),
  (106, (40, 0, 0, 31, 0, 0, [])),
  (109, (7, 0, 0, 2, 0, 0, [])),
  (110, (8, 0, 0, 6, 0, 0, [])),
  (112, (9, 0, 0, 0, 0, 0, [])),
  (113, (55, 0, 0, 7, 288, 668, [])),
  (116, (48, 0, 0, 123, 0, 0, [])),
  (119, (0, 0, 0, 0, 0, 0, [])),
  (120, (40, 0, 0, 137, 0, 0, [])),
  (123, (8, 0, 0, 4, 0, 0, [])),
  (125, (8, 0, 0, 5, 0, 0, [])),
  (127, (50, 0, 0, 135, 0, 0, [])),
  (130, (8, 0, 0, 4, 0, 0, [])),
  (132, (40, 0, 0, 137, 0, 0, [])),
  (135, (8, 0, 0, 5, 0, 0, [])),
  (137, (19, 0, 0, 0, 0, 0, [])),
  (138, (13, 0, 0, 2, 0, 0, [])),
  (139, (39, 1, 0, 3, 0, 0, [])),
  (142, (40, 0, 0, 4, 0, 0, [])),
  (145, (7, 0, 0, 2, 0, 0, [])),
  (146, (64, 0, 0, 0, 0, 0, []))]
def e_X10_risen : Ev := (t_X10_risen, [], 1, 0, false, 0, fun _ => 0)
def s_X10_risen : Sp := spc e_X10_risen 8
theorem m_X10_risen : monoE e_X10_risen := monoE_of nil_all
theorem p_X10_risen : mono s_X10_risen := spc_mono m_X10_risen _
theorem k_X10_risen (l : Launch) : Con l y_X10_risen prog_12_method_38_code 8 (Option.some Jvm.ClassFile.FieldType.int) { frames := 0, cells := 0, slots := 0, locals := 0 } 1 0 s_X10_risen := con_of l e_X10_risen y_X10_risen prog_12_method_38_code 8 (Option.some Jvm.ClassFile.FieldType.int) _ (by decide +kernel) nil_all (Or.inl (by decide +kernel))
theorem f_X10_risen : calV y_X10_risen prog_12_method_38_code 8 (Option.some Jvm.ClassFile.FieldType.int) 2 9 := ⟨⟨mem_g (i := 891) (by decide +kernel) rfl, mg 34 (by decide +kernel)⟩, by decide +kernel, by decide +kernel, by decide, mg 890 (by decide +kernel), mg 17 (by decide +kernel), _, rfl, rfl⟩
def y_X10_seating : MethodName := ⟨"ActsPaidModel", "seating", "(I)I"⟩
def t_X10_seating : List (Nat × Ao) := [
  (0, (0, 0, 0, 0, 0, 0, [])),
  (1, (13, 0, 0, 2, 0, 0, [])),
  (2, (0, 0, 0, 0, 0, 0, [])),
  (3, (13, 0, 0, 3, 0, 0, [])),
  (4, (7, 0, 0, 3, 0, 0, [])),
  (5, (1, 8, 0, 0, 0, 0, [])),
  (7, (50, 0, 0, 48, 0, 0, [])),
  (10, (9, 0, 0, 0, 0, 0, [])),
  (11, (55, 0, 0, 75, 289, 669, [])),
  (14, (7, 0, 0, 3, 0, 0, [])),
  (15, (63, 0, 0, 85, 0, 0, [])),
  (18, (41, 0, 0, 42, 0, 0, [])),
  (21, (9, 0, 0, 0, 0, 0, [])),
  (22, (55, 0, 0, 53, 307, 687, [])),
  (25, (7, 0, 0, 2, 0, 0, [])),
  (26, (7, 0, 0, 3, 0, 0, [])),
  (27, (58, 0, 0, 0, 0, 0, [])),
  (28, (9, 0, 0, 0, 0, 0, [])),
  (29, (55, 0, 0, 56, 308, 688, [])),
  (32, (7, 0, 0, 2, 0, 0, [])),
  (33, (9, 0, 0, 0, 0, 0, [])),
  (34, (7, 0, 0, 3, 0, 0, [])),
  (35, (62, 0, 0, 120, 0, 0, [])),
  (38, (58, 0, 0, 0, 0, 0, [])),
  (39, (39, 1, 0, 2, 0, 0, [])),
  (42, (39, 1, 0, 3, 0, 0, [])),
  (45, (40, 0, 0, 4, 0, 0, [])),
  (48, (1, (-6), 0, 0, 0, 0, [])),
  (50, (13, 0, 0, 3, 0, 0, [])),
  (51, (9, 0, 0, 0, 0, 0, [])),
  (52, (7, 0, 0, 2, 0, 0, [])),
  (53, (62, 0, 0, 136, 0, 0, [])),
  (56, (0, 1, 0, 0, 0, 0, [])),
  (57, (14, 0, 0, 4, 0, 0, [])),
  (59, (8, 0, 0, 4, 0, 0, [])),
  (61, (41, 0, 0, 157, 0, 0, [])),
  (64, (9, 0, 0, 0, 0, 0, [])),
  (65, (7, 0, 0, 2, 0, 0, [])),
  (66, (62, 0, 0, 150, 0, 0, [])),
  (69, (14, 0, 0, 5, 0, 0, [])),
  (71, (7, 0, 0, 3, 0, 0, [])),
  (72, (43, 0, 0, 81, 0, 0, [])),
  (75, (8, 0, 0, 5, 0, 0, [])),
  (77, (7, 0, 0, 3, 0, 0, [])),
  (78, (50, 0, 0, 93, 0, 0, [])),
  (81, (9, 0, 0, 0, 0, 0, [])),
  (82, (7, 0, 0, 2, 0, 0, [])),
  (83, (62, 0, 0, 153, 0, 0, [])),
  (86, (41, 0, 0, 93, 0, 0, [])),
  (89, (0, 1, 0, 0, 0, 0, [])),
  (90, (40, 0, 0, 94, 0, 0, [])),
  (93, (0, 0, 0, 0, 0, 0, [])),
  (94, (14, 0, 0, 6, 0, 0, [])),
  (96, (0, 0, 0, 0, 0, 0, [])),
  (97, (14, 0, 0, 7, 0, 0, [])),
  (99, (8, 0, 0, 7, 0, 0, [])),
  (101, (7, 0, 0, 2, 0, 0, [])),
  (102, (50, 0, 0, 135, 0, 0, [])),
  (105, (8, 0, 0, 6, 0, 0, [])),
  (107, (41, 0, 0, 135, 0, 0, [])),
  (110, (9, 0, 0, 0, 0, 0, [])),
  (111, (55, 0, 0, 50, 306, 686, [])),
  (114, (8, 0, 0, 7, 0, 0, [])),
  (116, (9, 0, 0, 0, 0, 0, [])),
  (117, (55, 0, 0, 53, 307, 687, [])),
  (120, (9, 0, 0, 0, 0, 0, [])),
  (121, (55, 0, 0, 44, 304, 684, [])),
  (124, (8, 0, 0, 7, 0, 0, [])),
  (126, (57, 0, 0, 0, 0, 0, [])),
  (127, (57, 0, 0, 0, 0, 0, [])),
  (128, (58, 0, 0, 0, 0, 0, [])),
  (129, (39, 1, 0, 7, 0, 0, [])),
  (132, (40, 0, 0, 99, 0, 0, [])),
  (135, (8, 0, 0, 6, 0, 0, [])),
  (137, (41, 0, 0, 145, 0, 0, [])),
  (140, (8, 0, 0, 5, 0, 0, [])),
  (142, (40, 0, 0, 146, 0, 0, [])),
  (145, (7, 0, 0, 3, 0, 0, [])),
  (146, (13, 0, 0, 3, 0, 0, [])),
  (147, (9, 0, 0, 0, 0, 0, [])),
  (148, (7, 0, 0, 2, 0, 0, [])),
  (149, (62, 0, 0, 144, 0, 0, [])),
  (152, (14, 0, 0, 4, 0, 0, [])),
  (154, (40, 0, 0, 59, 0, 0, [])),
  (157, (7, 0, 0, 1, 0, 0, [])),
  (158, (0, (-1), 0, 0, 0, 0, [])),
  (159, (47, 0, 0, 166, 0, 0, [])),
  (162, (7, 0, 0, 3, 0, 0, [])),
  (163, (44, 0, 0, 170, 0, 0, [])),
  (166, (7, 0, 0, 3, 0, 0, [])),
  (167, (40, 0, 0, 192, 0, 0, [])),
  (170, (7, 0, 0, 1, 0, 0, [])),
  (171, (0, 0, 0, 0, 0, 0, [])),
  (172, (7, 0, 0, 2, 0, 0, [])),
  (173, (0, 1, 0, 0, 0, 0, [])),
  (174, (20, 0, 0, 0, 0, 0, [])),
  (175, (63, 0, 0, 81, 0, 0, [])),
  (178, (41, 0, 0, 190, 0, 0, [])),
  (181, (9, 0, 0, 0, 0, 0, [])),
  (182, (55, 0, 0, 50, 306, 686, [])),
  (185, (7, 0, 0, 1, 0, 0, [])),
  (186, (57, 0, 0, 0, 0, 0, [])),
  (187, (40, 0, 0, 192, 0, 0, [])),
  (190, (1, (-6), 0, 0, 0, 0, [])),
  (192, (64, 0, 0, 0, 0, 0, []))]
def e_X10_seating : Ev := (t_X10_seating, [(81, (3, 1, 0, 0, s_X10_in)), (85, (2, 1, 0, 0, s_X10_has)), (120, (2, 1, 0, 10, s_X10_leavesAt)), (136, (2, 0, 0, 10, s_X10_firstRow)), (144, (2, 1, 0, 10, s_X10_nextRow)), (150, (2, 1, 0, 10, s_X10_risen)), (153, (2, 1, 0, 10, s_X10_keepsFriends))], 1, 0, false, 0, fun _ => 0)
def s_X10_seating : Sp := spc e_X10_seating 8
theorem m_X10_seating : monoE e_X10_seating := monoE_of (cons_all (p_X10_in) (cons_all (p_X10_has) (cons_all (p_X10_leavesAt) (cons_all (p_X10_firstRow) (cons_all (p_X10_nextRow) (cons_all (p_X10_risen) (cons_all (p_X10_keepsFriends) nil_all)))))))
theorem p_X10_seating : mono s_X10_seating := spc_mono m_X10_seating _
theorem k_X10_seating (l : Launch) : Con l y_X10_seating prog_12_method_39_code 8 (Option.some Jvm.ClassFile.FieldType.int) { frames := 2, cells := 0, slots := 0, locals := 48 } 1 0 s_X10_seating := con_of l e_X10_seating y_X10_seating prog_12_method_39_code 8 (Option.some Jvm.ClassFile.FieldType.int) _ (by decide +kernel) (cons_all (clS (k_X10_in l) f_X10_in ⟨rfl, rfl, Nat.le_of_ble_eq_true rfl, Nat.le_of_ble_eq_true rfl⟩ (mg 755 (by decide +kernel))) (cons_all (clS (k_X10_has l) f_X10_has ⟨rfl, rfl, Nat.le_of_ble_eq_true rfl, Nat.le_of_ble_eq_true rfl⟩ (mg 786 (by decide +kernel))) (cons_all (clV (k_X10_leavesAt l) f_X10_leavesAt ⟨rfl, rfl, Nat.le_of_ble_eq_true rfl, Nat.le_of_ble_eq_true rfl⟩ (mg 816 (by decide +kernel))) (cons_all (clV (k_X10_firstRow l) f_X10_firstRow ⟨rfl, rfl, Nat.le_of_ble_eq_true rfl, Nat.le_of_ble_eq_true rfl⟩ (mg 856 (by decide +kernel))) (cons_all (clV (k_X10_nextRow l) f_X10_nextRow ⟨rfl, rfl, Nat.le_of_ble_eq_true rfl, Nat.le_of_ble_eq_true rfl⟩ (mg 864 (by decide +kernel))) (cons_all (clV (k_X10_risen l) f_X10_risen ⟨rfl, rfl, Nat.le_of_ble_eq_true rfl, Nat.le_of_ble_eq_true rfl⟩ (mg 888 (by decide +kernel))) (cons_all (clV (k_X10_keepsFriends l) f_X10_keepsFriends ⟨rfl, rfl, Nat.le_of_ble_eq_true rfl, Nat.le_of_ble_eq_true rfl⟩ (mg 892 (by decide +kernel))) nil_all))))))) (Or.inl (by decide +kernel))
theorem f_X10_seating : calV y_X10_seating prog_12_method_39_code 8 (Option.some Jvm.ClassFile.FieldType.int) 2 9 := ⟨⟨mem_g (i := 887) (by decide +kernel) rfl, mg 34 (by decide +kernel)⟩, by decide +kernel, by decide +kernel, by decide, mg 885 (by decide +kernel), mg 886 (by decide +kernel), _, rfl, rfl⟩
def y_X10_other : MethodName := ⟨"ActsPaidModel", "other", "(II)I"⟩
def t_X10_other : List (Nat × Ao) := [
  (0, (9, 0, 0, 0, 0, 0, [])),
  (1, (7, 0, 0, 1, 0, 0, [])),
  (2, (62, 0, 0, 95, 0, 0, [])),
  (5, (42, 0, 0, 10, 0, 0, [])),
  (8, (0, (-1), 0, 0, 0, 0, [])),
  (9, (64, 0, 0, 0, 0, 0, [])),
  (10, (7, 0, 0, 2, 0, 0, [])),
  (11, (0, 0, 0, 0, 0, 0, [])),
  (12, (1, 25, 0, 0, 0, 0, [])),
  (14, (63, 0, 0, 81, 0, 0, [])),
  (17, (42, 0, 0, 23, 0, 0, [])),
  (20, (1, (-2), 0, 0, 0, 0, [])),
  (22, (64, 0, 0, 0, 0, 0, [])),
  (23, (9, 0, 0, 0, 0, 0, [])),
  (24, (55, 0, 0, 32, 297, 677, [])),
  (27, (7, 0, 0, 1, 0, 0, [])),
  (28, (57, 0, 0, 0, 0, 0, [])),
  (29, (13, 0, 0, 3, 0, 0, [])),
  (30, (9, 0, 0, 0, 0, 0, [])),
  (31, (55, 0, 0, 32, 297, 677, [])),
  (34, (7, 0, 0, 1, 0, 0, [])),
  (35, (7, 0, 0, 2, 0, 0, [])),
  (36, (58, 0, 0, 0, 0, 0, [])),
  (37, (7, 0, 0, 3, 0, 0, [])),
  (38, (64, 0, 0, 0, 0, 0, []))]
def e_X10_other : Ev := (t_X10_other, [(81, (3, 1, 0, 0, s_X10_in)), (95, (2, 1, 0, 10, s_X10_isAct))], 1, 0, false, 0, fun _ => 0)
def s_X10_other : Sp := spc e_X10_other 4
theorem m_X10_other : monoE e_X10_other := monoE_of (cons_all (p_X10_in) (cons_all (p_X10_isAct) nil_all))
theorem p_X10_other : mono s_X10_other := spc_mono m_X10_other _
theorem k_X10_other (l : Launch) : Con l y_X10_other prog_12_method_40_code 4 (Option.some Jvm.ClassFile.FieldType.int) { frames := 2, cells := 0, slots := 0, locals := 43 } 1 0 s_X10_other := con_of l e_X10_other y_X10_other prog_12_method_40_code 4 (Option.some Jvm.ClassFile.FieldType.int) _ (by decide +kernel) (cons_all (clS (k_X10_in l) f_X10_in ⟨rfl, rfl, Nat.le_of_ble_eq_true rfl, Nat.le_of_ble_eq_true rfl⟩ (mg 755 (by decide +kernel))) (cons_all (clV (k_X10_isAct l) f_X10_isAct ⟨rfl, rfl, Nat.le_of_ble_eq_true rfl, Nat.le_of_ble_eq_true rfl⟩ (mg 782 (by decide +kernel))) nil_all)) (Or.inl (by decide +kernel))
theorem f_X10_other : calV y_X10_other prog_12_method_40_code 4 (Option.some Jvm.ClassFile.FieldType.int) 3 9 := ⟨⟨mem_g (i := 899) (by decide +kernel) rfl, mg 34 (by decide +kernel)⟩, by decide +kernel, by decide +kernel, by decide, mg 897 (by decide +kernel), mg 898 (by decide +kernel), _, rfl, rfl⟩
def y_X10_goOver : MethodName := ⟨"ActsPaidModel", "goOver", "(I)V"⟩
def t_X10_goOver : List (Nat × Ao) := [
  (0, (3, (-1000000), 0, 156, 0, 908, [])),
  (2, (13, 0, 0, 2, 0, 0, [])),
  (3, (0, 0, 0, 0, 0, 0, [])),
  (4, (13, 0, 0, 3, 0, 0, [])),
  (5, (0, 0, 0, 0, 0, 0, [])),
  (6, (14, 0, 0, 4, 0, 0, [])),
  (8, (8, 0, 0, 4, 0, 0, [])),
  (10, (9, 0, 0, 0, 0, 0, [])),
  (11, (55, 0, 0, 7, 288, 668, [])),
  (14, (51, 0, 0, 153, 0, 0, [])),
  (17, (7, 0, 0, 3, 0, 0, [])),
  (18, (8, 0, 0, 4, 0, 0, [])),
  (20, (46, 0, 0, 45, 0, 0, [])),
  (23, (9, 0, 0, 0, 0, 0, [])),
  (24, (55, 0, 0, 22, 294, 674, [])),
  (27, (1, 6, 0, 0, 0, 0, [])),
  (29, (7, 0, 0, 1, 0, 0, [])),
  (30, (21, 0, 0, 0, 0, 0, [])),
  (31, (9, 0, 0, 0, 0, 0, [])),
  (32, (55, 0, 0, 26, 295, 675, [])),
  (35, (8, 0, 0, 4, 0, 0, [])),
  (37, (0, 1, 0, 0, 0, 0, [])),
  (38, (20, 0, 0, 0, 0, 0, [])),
  (39, (57, 0, 0, 0, 0, 0, [])),
  (40, (19, 0, 0, 0, 0, 0, [])),
  (41, (57, 0, 0, 0, 0, 0, [])),
  (42, (40, 0, 0, 46, 0, 0, [])),
  (45, (0, 0, 0, 0, 0, 0, [])),
  (46, (19, 0, 0, 0, 0, 0, [])),
  (47, (13, 0, 0, 3, 0, 0, [])),
  (48, (0, 0, 0, 0, 0, 0, [])),
  (49, (14, 0, 0, 5, 0, 0, [])),
  (51, (8, 0, 0, 4, 0, 0, [])),
  (53, (14, 0, 0, 6, 0, 0, [])),
  (55, (8, 0, 0, 6, 0, 0, [])),
  (57, (9, 0, 0, 0, 0, 0, [])),
  (58, (55, 0, 0, 7, 288, 668, [])),
  (61, (51, 0, 0, 147, 0, 0, [])),
  (64, (8, 0, 0, 5, 0, 0, [])),
  (66, (8, 0, 0, 6, 0, 0, [])),
  (68, (8, 0, 0, 4, 0, 0, [])),
  (70, (52, 0, 0, 85, 0, 0, [])),
  (73, (9, 0, 0, 0, 0, 0, [])),
  (74, (55, 0, 0, 32, 297, 677, [])),
  (77, (8, 0, 0, 6, 0, 0, [])),
  (79, (0, 1, 0, 0, 0, 0, [])),
  (80, (20, 0, 0, 0, 0, 0, [])),
  (81, (57, 0, 0, 0, 0, 0, [])),
  (82, (40, 0, 0, 86, 0, 0, [])),
  (85, (0, 0, 0, 0, 0, 0, [])),
  (86, (19, 0, 0, 0, 0, 0, [])),
  (87, (14, 0, 0, 5, 0, 0, [])),
  (89, (7, 0, 0, 3, 0, 0, [])),
  (90, (8, 0, 0, 5, 0, 0, [])),
  (92, (19, 0, 0, 0, 0, 0, [])),
  (93, (9, 0, 0, 0, 0, 0, [])),
  (94, (9, 0, 0, 0, 0, 0, [])),
  (95, (55, 0, 0, 13, 290, 670, [])),
  (98, (8, 0, 0, 4, 0, 0, [])),
  (100, (62, 0, 0, 116, 0, 0, [])),
  (103, (20, 0, 0, 0, 0, 0, [])),
  (104, (9, 0, 0, 0, 0, 0, [])),
  (105, (9, 0, 0, 0, 0, 0, [])),
  (106, (55, 0, 0, 19, 293, 673, [])),
  (109, (8, 0, 0, 6, 0, 0, [])),
  (111, (8, 0, 0, 4, 0, 0, [])),
  (113, (20, 0, 0, 0, 0, 0, [])),
  (114, (62, 0, 0, 116, 0, 0, [])),
  (117, (20, 0, 0, 0, 0, 0, [])),
  (118, (14, 0, 0, 7, 0, 0, [])),
  (120, (8, 0, 0, 7, 0, 0, [])),
  (122, (7, 0, 0, 2, 0, 0, [])),
  (123, (52, 0, 0, 141, 0, 0, [])),
  (126, (8, 0, 0, 7, 0, 0, [])),
  (128, (13, 0, 0, 2, 0, 0, [])),
  (129, (9, 0, 0, 0, 0, 0, [])),
  (130, (8, 0, 0, 4, 0, 0, [])),
  (132, (56, 0, 0, 157, 309, 689, [])),
  (135, (9, 0, 0, 0, 0, 0, [])),
  (136, (8, 0, 0, 6, 0, 0, [])),
  (138, (56, 0, 0, 160, 310, 690, [])),
  (141, (39, 1, 0, 6, 0, 0, [])),
  (144, (40, 0, 0, 55, 0, 0, [])),
  (147, (39, 1, 0, 4, 0, 0, [])),
  (150, (40, 0, 0, 8, 0, 0, [])),
  (153, (66, 0, 0, 0, 0, 0, []))]
def e_X10_goOver : Ev := (t_X10_goOver, [(116, (3, 1, 0, 10, s_X10_faresOf))], 0, 0, false, 0, fun _ => 0)
def s_X10_goOver : Sp := spc e_X10_goOver 8
theorem m_X10_goOver : monoE e_X10_goOver := monoE_of (cons_all (p_X10_faresOf) nil_all)
theorem p_X10_goOver : mono s_X10_goOver := spc_mono m_X10_goOver _
theorem k_X10_goOver (l : Launch) : Con l y_X10_goOver prog_12_method_41_code 8 (Option.none : Option Jvm.ClassFile.FieldType) { frames := 1, cells := 0, slots := 0, locals := 22 } 0 0 s_X10_goOver := con_of l e_X10_goOver y_X10_goOver prog_12_method_41_code 8 (Option.none : Option Jvm.ClassFile.FieldType) _ (by decide +kernel) (cons_all (clV (k_X10_faresOf l) f_X10_faresOf ⟨rfl, rfl, Nat.le_of_ble_eq_true rfl, Nat.le_of_ble_eq_true rfl⟩ (mg 820 (by decide +kernel))) nil_all) (Or.inl (by decide +kernel))
theorem f_X10_goOver : calV y_X10_goOver prog_12_method_41_code 8 (Option.none : Option Jvm.ClassFile.FieldType) 2 9 := ⟨⟨mem_g (i := 907) (by decide +kernel) rfl, mg 34 (by decide +kernel)⟩, by decide +kernel, by decide +kernel, by decide, mg 906 (by decide +kernel), mg 19 (by decide +kernel), _, rfl, rfl⟩
def y_X10_over : MethodName := ⟨"ActsPaidModel", "over", "(II)I"⟩
def t_X10_over : List (Nat × Ao) := [
  (0, (9, 0, 0, 0, 0, 0, [])),
  (1, (7, 0, 0, 1, 0, 0, [])),
  (2, (62, 0, 0, 110, 0, 0, [])),
  (5, (42, 0, 0, 10, 0, 0, [])),
  (8, (0, (-1), 0, 0, 0, 0, [])),
  (9, (64, 0, 0, 0, 0, 0, [])),
  (10, (7, 0, 0, 2, 0, 0, [])),
  (11, (0, 0, 0, 0, 0, 0, [])),
  (12, (0, 1, 0, 0, 0, 0, [])),
  (13, (63, 0, 0, 81, 0, 0, [])),
  (16, (42, 0, 0, 22, 0, 0, [])),
  (19, (1, (-2), 0, 0, 0, 0, [])),
  (21, (64, 0, 0, 0, 0, 0, [])),
  (22, (9, 0, 0, 0, 0, 0, [])),
  (23, (7, 0, 0, 1, 0, 0, [])),
  (24, (62, 0, 0, 163, 0, 0, [])),
  (27, (7, 0, 0, 2, 0, 0, [])),
  (28, (42, 0, 0, 38, 0, 0, [])),
  (31, (9, 0, 0, 0, 0, 0, [])),
  (32, (55, 0, 0, 157, 309, 689, [])),
  (35, (40, 0, 0, 42, 0, 0, [])),
  (38, (9, 0, 0, 0, 0, 0, [])),
  (39, (55, 0, 0, 160, 310, 690, [])),
  (42, (64, 0, 0, 0, 0, 0, []))]
def e_X10_over : Ev := (t_X10_over, [(81, (3, 1, 0, 0, s_X10_in)), (110, (2, 1, 0, 10, s_X10_comes)), (163, (2, 0, 0, 10, s_X10_goOver))], 1, 0, false, 0, fun _ => 0)
def s_X10_over : Sp := spc e_X10_over 3
theorem m_X10_over : monoE e_X10_over := monoE_of (cons_all (p_X10_in) (cons_all (p_X10_comes) (cons_all (p_X10_goOver) nil_all)))
theorem p_X10_over : mono s_X10_over := spc_mono m_X10_over _
theorem k_X10_over (l : Launch) : Con l y_X10_over prog_12_method_42_code 3 (Option.some Jvm.ClassFile.FieldType.int) { frames := 2, cells := 0, slots := 0, locals := 49 } 1 0 s_X10_over := con_of l e_X10_over y_X10_over prog_12_method_42_code 3 (Option.some Jvm.ClassFile.FieldType.int) _ (by decide +kernel) (cons_all (clS (k_X10_in l) f_X10_in ⟨rfl, rfl, Nat.le_of_ble_eq_true rfl, Nat.le_of_ble_eq_true rfl⟩ (mg 755 (by decide +kernel))) (cons_all (clV (k_X10_comes l) f_X10_comes ⟨rfl, rfl, Nat.le_of_ble_eq_true rfl, Nat.le_of_ble_eq_true rfl⟩ (mg 800 (by decide +kernel))) (cons_all (clV (k_X10_goOver l) f_X10_goOver ⟨rfl, rfl, Nat.le_of_ble_eq_true rfl, Nat.le_of_ble_eq_true rfl⟩ (mg 904 (by decide +kernel))) nil_all))) (Or.inl (by decide +kernel))
theorem f_X10_over : calV y_X10_over prog_12_method_42_code 3 (Option.some Jvm.ClassFile.FieldType.int) 3 9 := ⟨⟨mem_g (i := 903) (by decide +kernel) rfl, mg 34 (by decide +kernel)⟩, by decide +kernel, by decide +kernel, by decide, mg 901 (by decide +kernel), mg 902 (by decide +kernel), _, rfl, rfl⟩
def y_X10_takenBy : MethodName := ⟨"ActsPaidModel", "takenBy", "(I)I"⟩
def t_X10_takenBy : List (Nat × Ao) := [
  (0, (0, 0, 0, 0, 0, 0, [])),
  (1, (13, 0, 0, 2, 0, 0, [])),
  (2, (0, 0, 0, 0, 0, 0, [])),
  (3, (13, 0, 0, 3, 0, 0, [])),
  (4, (7, 0, 0, 3, 0, 0, [])),
  (5, (1, 8, 0, 0, 0, 0, [])),
  (7, (50, 0, 0, 71, 0, 0, [])),
  (10, (9, 0, 0, 0, 0, 0, [])),
  (11, (55, 0, 0, 75, 289, 669, [])),
  (14, (7, 0, 0, 3, 0, 0, [])),
  (15, (63, 0, 0, 85, 0, 0, [])),
  (18, (41, 0, 0, 65, 0, 0, [])),
  (21, (9, 0, 0, 0, 0, 0, [])),
  (22, (7, 0, 0, 3, 0, 0, [])),
  (23, (62, 0, 0, 163, 0, 0, [])),
  (26, (7, 0, 0, 2, 0, 0, [])),
  (27, (7, 0, 0, 1, 0, 0, [])),
  (28, (42, 0, 0, 46, 0, 0, [])),
  (31, (9, 0, 0, 0, 0, 0, [])),
  (32, (9, 0, 0, 0, 0, 0, [])),
  (33, (55, 0, 0, 13, 290, 670, [])),
  (36, (9, 0, 0, 0, 0, 0, [])),
  (37, (55, 0, 0, 157, 309, 689, [])),
  (40, (62, 0, 0, 116, 0, 0, [])),
  (43, (40, 0, 0, 63, 0, 0, [])),
  (46, (9, 0, 0, 0, 0, 0, [])),
  (47, (9, 0, 0, 0, 0, 0, [])),
  (48, (55, 0, 0, 19, 293, 673, [])),
  (51, (9, 0, 0, 0, 0, 0, [])),
  (52, (55, 0, 0, 160, 310, 690, [])),
  (55, (9, 0, 0, 0, 0, 0, [])),
  (56, (55, 0, 0, 157, 309, 689, [])),
  (59, (20, 0, 0, 0, 0, 0, [])),
  (60, (62, 0, 0, 116, 0, 0, [])),
  (63, (19, 0, 0, 0, 0, 0, [])),
  (64, (13, 0, 0, 2, 0, 0, [])),
  (65, (39, 1, 0, 3, 0, 0, [])),
  (68, (40, 0, 0, 4, 0, 0, [])),
  (71, (7, 0, 0, 2, 0, 0, [])),
  (72, (64, 0, 0, 0, 0, 0, []))]
def e_X10_takenBy : Ev := (t_X10_takenBy, [(85, (2, 1, 0, 0, s_X10_has)), (116, (3, 1, 0, 10, s_X10_faresOf)), (163, (2, 0, 0, 10, s_X10_goOver))], 1, 0, false, 0, fun _ => 0)
def s_X10_takenBy : Sp := spc e_X10_takenBy 4
theorem m_X10_takenBy : monoE e_X10_takenBy := monoE_of (cons_all (p_X10_has) (cons_all (p_X10_faresOf) (cons_all (p_X10_goOver) nil_all)))
theorem p_X10_takenBy : mono s_X10_takenBy := spc_mono m_X10_takenBy _
theorem k_X10_takenBy (l : Launch) : Con l y_X10_takenBy prog_12_method_43_code 4 (Option.some Jvm.ClassFile.FieldType.int) { frames := 2, cells := 0, slots := 0, locals := 49 } 1 0 s_X10_takenBy := con_of l e_X10_takenBy y_X10_takenBy prog_12_method_43_code 4 (Option.some Jvm.ClassFile.FieldType.int) _ (by decide +kernel) (cons_all (clS (k_X10_has l) f_X10_has ⟨rfl, rfl, Nat.le_of_ble_eq_true rfl, Nat.le_of_ble_eq_true rfl⟩ (mg 786 (by decide +kernel))) (cons_all (clV (k_X10_faresOf l) f_X10_faresOf ⟨rfl, rfl, Nat.le_of_ble_eq_true rfl, Nat.le_of_ble_eq_true rfl⟩ (mg 820 (by decide +kernel))) (cons_all (clV (k_X10_goOver l) f_X10_goOver ⟨rfl, rfl, Nat.le_of_ble_eq_true rfl, Nat.le_of_ble_eq_true rfl⟩ (mg 904 (by decide +kernel))) nil_all))) (Or.inl (by decide +kernel))
theorem f_X10_takenBy : calV y_X10_takenBy prog_12_method_43_code 4 (Option.some Jvm.ClassFile.FieldType.int) 2 9 := ⟨⟨mem_g (i := 916) (by decide +kernel) rfl, mg 34 (by decide +kernel)⟩, by decide +kernel, by decide +kernel, by decide, mg 915 (by decide +kernel), mg 20 (by decide +kernel), _, rfl, rfl⟩
def y_X10_both : MethodName := ⟨"ActsPaidModel", "both", "(I)I"⟩
def t_X10_both : List (Nat × Ao) := [
  (0, (7, 0, 0, 1, 0, 0, [])),
  (1, (0, 0, 0, 0, 0, 0, [])),
  (2, (0, 1, 0, 0, 0, 0, [])),
  (3, (63, 0, 0, 81, 0, 0, [])),
  (6, (41, 0, 0, 17, 0, 0, [])),
  (9, (9, 0, 0, 0, 0, 0, [])),
  (10, (7, 0, 0, 1, 0, 0, [])),
  (11, (62, 0, 0, 166, 0, 0, [])),
  (14, (40, 0, 0, 19, 0, 0, [])),
  (17, (1, (-2), 0, 0, 0, 0, [])),
  (19, (64, 0, 0, 0, 0, 0, []))]
def e_X10_both : Ev := (t_X10_both, [(81, (3, 1, 0, 0, s_X10_in)), (166, (2, 1, 0, 10, s_X10_takenBy))], 1, 0, false, 0, fun _ => 0)
def s_X10_both : Sp := spc e_X10_both 2
theorem m_X10_both : monoE e_X10_both := monoE_of (cons_all (p_X10_in) (cons_all (p_X10_takenBy) nil_all))
theorem p_X10_both : mono s_X10_both := spc_mono m_X10_both _
theorem k_X10_both (l : Launch) : Con l y_X10_both prog_12_method_44_code 2 (Option.some Jvm.ClassFile.FieldType.int) { frames := 3, cells := 0, slots := 0, locals := 72 } 1 0 s_X10_both := con_of l e_X10_both y_X10_both prog_12_method_44_code 2 (Option.some Jvm.ClassFile.FieldType.int) _ (by decide +kernel) (cons_all (clS (k_X10_in l) f_X10_in ⟨rfl, rfl, Nat.le_of_ble_eq_true rfl, Nat.le_of_ble_eq_true rfl⟩ (mg 755 (by decide +kernel))) (cons_all (clV (k_X10_takenBy l) f_X10_takenBy ⟨rfl, rfl, Nat.le_of_ble_eq_true rfl, Nat.le_of_ble_eq_true rfl⟩ (mg 913 (by decide +kernel))) nil_all)) (Or.inl (by decide +kernel))
theorem f_X10_both : calV y_X10_both prog_12_method_44_code 2 (Option.some Jvm.ClassFile.FieldType.int) 2 9 := ⟨⟨mem_g (i := 912) (by decide +kernel) rfl, mg 34 (by decide +kernel)⟩, by decide +kernel, by decide +kernel, by decide, mg 910 (by decide +kernel), mg 911 (by decide +kernel), _, rfl, rfl⟩
def y_X10_rests : MethodName := ⟨"ActsPaidModel", "rests", "(I)I"⟩
def t_X10_rests : List (Nat × Ao) := [
  (0, (9, 0, 0, 0, 0, 0, [])),
  (1, (55, 0, 0, 13, 290, 670, [])),
  (4, (13, 0, 0, 2, 0, 0, [])),
  (5, (9, 0, 0, 0, 0, 0, [])),
  (6, (55, 0, 0, 19, 293, 673, [])),
  (9, (13, 0, 0, 3, 0, 0, [])),
  (10, (0, 0, 0, 0, 0, 0, [])),
  (11, (14, 0, 0, 4, 0, 0, [])),
  (13, (8, 0, 0, 4, 0, 0, [])),
  (15, (1, 100, 0, 0, 0, 0, [])),
  (17, (50, 0, 0, 74, 0, 0, [])),
  (20, (9, 0, 0, 0, 0, 0, [])),
  (21, (8, 0, 0, 4, 0, 0, [])),
  (23, (1, 10, 0, 0, 0, 0, [])),
  (25, (22, 0, 0, 0, 0, 0, [])),
  (26, (56, 0, 0, 13, 290, 670, [])),
  (29, (9, 0, 0, 0, 0, 0, [])),
  (30, (8, 0, 0, 4, 0, 0, [])),
  (32, (1, 10, 0, 0, 0, 0, [])),
  (34, (23, 0, 0, 0, 0, 0, [])),
  (35, (56, 0, 0, 19, 293, 673, [])),
  (38, (9, 0, 0, 0, 0, 0, [])),
  (39, (55, 0, 0, 59, 311, 691, [])),
  (42, (0, 2, 0, 0, 0, 0, [])),
  (43, (8, 0, 0, 4, 0, 0, [])),
  (45, (21, 0, 0, 0, 0, 0, [])),
  (46, (9, 0, 0, 0, 0, 0, [])),
  (47, (0, 0, 0, 0, 0, 0, [])),
  (48, (62, 0, 0, 166, 0, 0, [])),
  (51, (58, 0, 0, 0, 0, 0, [])),
  (52, (9, 0, 0, 0, 0, 0, [])),
  (53, (55, 0, 0, 59, 311, 691, [])),
  (56, (0, 2, 0, 0, 0, 0, [])),
  (57, (8, 0, 0, 4, 0, 0, [])),
  (59, (21, 0, 0, 0, 0, 0, [])),
  (60, (0, 1, 0, 0, 0, 0, [])),
  (61, (19, 0, 0, 0, 0, 0, [])),
  (62, (9, 0, 0, 0, 0, 0, [])),
  (63, (0, 1, 0, 0, 0, 0, [])),
  (64, (62, 0, 0, 166, 0, 0, [])),
  (67, (58, 0, 0, 0, 0, 0, [])),
  (68, (39, 1, 0, 4, 0, 0, [])),
  (71, (40, 0, 0, 13, 0, 0, [])),
  (74, (9, 0, 0, 0, 0, 0, [])),
  (75, (7, 0, 0, 2, 0, 0, [])),
  (76, (56, 0, 0, 13, 290, 670, [])),
  (79, (9, 0, 0, 0, 0, 0, [])),
  (80, (7, 0, 0, 3, 0, 0, [])),
  (81, (56, 0, 0, 19, 293, 673, [])),
  (84, (0, 0, 0, 0, 0, 0, [])),
  (85, (14, 0, 0, 4, 0, 0, [])),
  (87, (0, 0, 0, 0, 0, 0, [])),
  (88, (14, 0, 0, 5, 0, 0, [])),
  (90, (8, 0, 0, 5, 0, 0, [])),
  (92, (1, 100, 0, 0, 0, 0, [])),
  (94, (50, 0, 0, 227, 0, 0, [])),
  (97, (0, 1, 0, 0, 0, 0, [])),
  (98, (14, 0, 0, 6, 0, 0, [])),
  (100, (0, 0, 0, 0, 0, 0, [])),
  (101, (14, 0, 0, 7, 0, 0, [])),
  (103, (8, 0, 0, 7, 0, 0, [])),
  (105, (1, 10, 0, 0, 0, 0, [])),
  (107, (50, 0, 0, 204, 0, 0, [])),
  (110, (8, 0, 0, 6, 0, 0, [])),
  (112, (41, 0, 0, 149, 0, 0, [])),
  (115, (9, 0, 0, 0, 0, 0, [])),
  (116, (55, 0, 0, 59, 311, 691, [])),
  (119, (0, 2, 0, 0, 0, 0, [])),
  (120, (1, 10, 0, 0, 0, 0, [])),
  (122, (8, 0, 0, 7, 0, 0, [])),
  (124, (21, 0, 0, 0, 0, 0, [])),
  (125, (8, 0, 0, 5, 0, 0, [])),
  (127, (1, 10, 0, 0, 0, 0, [])),
  (129, (23, 0, 0, 0, 0, 0, [])),
  (130, (19, 0, 0, 0, 0, 0, [])),
  (131, (21, 0, 0, 0, 0, 0, [])),
  (132, (57, 0, 0, 0, 0, 0, [])),
  (133, (9, 0, 0, 0, 0, 0, [])),
  (134, (55, 0, 0, 59, 311, 691, [])),
  (137, (0, 2, 0, 0, 0, 0, [])),
  (138, (8, 0, 0, 5, 0, 0, [])),
  (140, (21, 0, 0, 0, 0, 0, [])),
  (141, (57, 0, 0, 0, 0, 0, [])),
  (142, (51, 0, 0, 149, 0, 0, [])),
  (145, (0, 1, 0, 0, 0, 0, [])),
  (146, (40, 0, 0, 150, 0, 0, [])),
  (149, (0, 0, 0, 0, 0, 0, [])),
  (150, (14, 0, 0, 6, 0, 0, [])),
  (152, (8, 0, 0, 6, 0, 0, [])),
  (154, (41, 0, 0, 195, 0, 0, [])),
  (157, (9, 0, 0, 0, 0, 0, [])),
  (158, (55, 0, 0, 59, 311, 691, [])),
  (161, (0, 2, 0, 0, 0, 0, [])),
  (162, (8, 0, 0, 5, 0, 0, [])),
  (164, (8, 0, 0, 5, 0, 0, [])),
  (166, (1, 10, 0, 0, 0, 0, [])),
  (168, (23, 0, 0, 0, 0, 0, [])),
  (169, (20, 0, 0, 0, 0, 0, [])),
  (170, (8, 0, 0, 7, 0, 0, [])),
  (172, (19, 0, 0, 0, 0, 0, [])),
  (173, (21, 0, 0, 0, 0, 0, [])),
  (174, (0, 1, 0, 0, 0, 0, [])),
  (175, (19, 0, 0, 0, 0, 0, [])),
  (176, (57, 0, 0, 0, 0, 0, [])),
  (177, (9, 0, 0, 0, 0, 0, [])),
  (178, (55, 0, 0, 59, 311, 691, [])),
  (181, (0, 2, 0, 0, 0, 0, [])),
  (182, (8, 0, 0, 5, 0, 0, [])),
  (184, (21, 0, 0, 0, 0, 0, [])),
  (185, (0, 1, 0, 0, 0, 0, [])),
  (186, (19, 0, 0, 0, 0, 0, [])),
  (187, (57, 0, 0, 0, 0, 0, [])),
  (188, (51, 0, 0, 195, 0, 0, [])),
  (191, (0, 1, 0, 0, 0, 0, [])),
  (192, (40, 0, 0, 196, 0, 0, [])),
  (195, (0, 0, 0, 0, 0, 0, [])),
  (196, (14, 0, 0, 6, 0, 0, [])),
  (198, (39, 1, 0, 7, 0, 0, [])),
  (201, (40, 0, 0, 103, 0, 0, [])),
  (204, (8, 0, 0, 6, 0, 0, [])),
  (206, (41, 0, 0, 221, 0, 0, [])),
  (209, (8, 0, 0, 4, 0, 0, [])),
  (211, (7, 0, 0, 1, 0, 0, [])),
  (212, (48, 0, 0, 218, 0, 0, [])),
  (215, (8, 0, 0, 5, 0, 0, [])),
  (217, (64, 0, 0, 0, 0, 0, [])),
  (218, (39, 1, 0, 4, 0, 0, [])),
  (221, (39, 1, 0, 5, 0, 0, [])),
  (224, (40, 0, 0, 90, 0, 0, [])),
  (227, (7, 0, 0, 1, 0, 0, [])),
  (228, (0, (-1), 0, 0, 0, 0, [])),
  (229, (48, 0, 0, 237, 0, 0, [])),
  (232, (8, 0, 0, 4, 0, 0, [])),
  (234, (40, 0, 0, 239, 0, 0, [])),
  (237, (1, (-6), 0, 0, 0, 0, [])),
  (239, (64, 0, 0, 0, 0, 0, []))]
def e_X10_rests : Ev := (t_X10_rests, [(166, (2, 1, 0, 10, s_X10_takenBy))], 1, 0, false, 0, fun _ => 0)
def s_X10_rests : Sp := spc e_X10_rests 8
theorem m_X10_rests : monoE e_X10_rests := monoE_of (cons_all (p_X10_takenBy) nil_all)
theorem p_X10_rests : mono s_X10_rests := spc_mono m_X10_rests _
theorem k_X10_rests (l : Launch) : Con l y_X10_rests prog_12_method_45_code 8 (Option.some Jvm.ClassFile.FieldType.int) { frames := 3, cells := 0, slots := 0, locals := 72 } 1 0 s_X10_rests := con_of l e_X10_rests y_X10_rests prog_12_method_45_code 8 (Option.some Jvm.ClassFile.FieldType.int) _ (by decide +kernel) (cons_all (clV (k_X10_takenBy l) f_X10_takenBy ⟨rfl, rfl, Nat.le_of_ble_eq_true rfl, Nat.le_of_ble_eq_true rfl⟩ (mg 913 (by decide +kernel))) nil_all) (Or.inl (by decide +kernel))
theorem f_X10_rests : calV y_X10_rests prog_12_method_45_code 8 (Option.some Jvm.ClassFile.FieldType.int) 2 9 := ⟨⟨mem_g (i := 920) (by decide +kernel) rfl, mg 34 (by decide +kernel)⟩, by decide +kernel, by decide +kernel, by decide, mg 918 (by decide +kernel), mg 919 (by decide +kernel), _, rfl, rfl⟩
def y_X10_seen : MethodName := ⟨"ActsPaidModel", "seen", "(III)I"⟩
def t_X10_seen : List (Nat × Ao) := [
  (0, (9, 0, 0, 0, 0, 0, [])),
  (1, (7, 0, 0, 1, 0, 0, [])),
  (2, (62, 0, 0, 110, 0, 0, [])),
  (5, (42, 0, 0, 10, 0, 0, [])),
  (8, (0, (-1), 0, 0, 0, 0, [])),
  (9, (64, 0, 0, 0, 0, 0, [])),
  (10, (7, 0, 0, 2, 0, 0, [])),
  (11, (0, 0, 0, 0, 0, 0, [])),
  (12, (9, 0, 0, 0, 0, 0, [])),
  (13, (55, 0, 0, 7, 288, 668, [])),
  (16, (63, 0, 0, 81, 0, 0, [])),
  (19, (41, 0, 0, 32, 0, 0, [])),
  (22, (7, 0, 0, 3, 0, 0, [])),
  (23, (0, 0, 0, 0, 0, 0, [])),
  (24, (1, 30, 0, 0, 0, 0, [])),
  (26, (63, 0, 0, 81, 0, 0, [])),
  (29, (42, 0, 0, 35, 0, 0, [])),
  (32, (1, (-2), 0, 0, 0, 0, [])),
  (34, (64, 0, 0, 0, 0, 0, [])),
  (35, (9, 0, 0, 0, 0, 0, [])),
  (36, (55, 0, 0, 78, 299, 679, [])),
  (39, (1, 6, 0, 0, 0, 0, [])),
  (41, (48, 0, 0, 47, 0, 0, [])),
  (44, (1, (-4), 0, 0, 0, 0, [])),
  (46, (64, 0, 0, 0, 0, 0, [])),
  (47, (9, 0, 0, 0, 0, 0, [])),
  (48, (55, 0, 0, 38, 300, 680, [])),
  (51, (0, 3, 0, 0, 0, 0, [])),
  (52, (9, 0, 0, 0, 0, 0, [])),
  (53, (55, 0, 0, 78, 299, 679, [])),
  (56, (21, 0, 0, 0, 0, 0, [])),
  (57, (7, 0, 0, 1, 0, 0, [])),
  (58, (58, 0, 0, 0, 0, 0, [])),
  (59, (9, 0, 0, 0, 0, 0, [])),
  (60, (55, 0, 0, 38, 300, 680, [])),
  (63, (0, 3, 0, 0, 0, 0, [])),
  (64, (9, 0, 0, 0, 0, 0, [])),
  (65, (55, 0, 0, 78, 299, 679, [])),
  (68, (21, 0, 0, 0, 0, 0, [])),
  (69, (0, 1, 0, 0, 0, 0, [])),
  (70, (19, 0, 0, 0, 0, 0, [])),
  (71, (7, 0, 0, 2, 0, 0, [])),
  (72, (58, 0, 0, 0, 0, 0, [])),
  (73, (9, 0, 0, 0, 0, 0, [])),
  (74, (55, 0, 0, 38, 300, 680, [])),
  (77, (0, 3, 0, 0, 0, 0, [])),
  (78, (9, 0, 0, 0, 0, 0, [])),
  (79, (55, 0, 0, 78, 299, 679, [])),
  (82, (21, 0, 0, 0, 0, 0, [])),
  (83, (0, 2, 0, 0, 0, 0, [])),
  (84, (19, 0, 0, 0, 0, 0, [])),
  (85, (7, 0, 0, 3, 0, 0, [])),
  (86, (58, 0, 0, 0, 0, 0, [])),
  (87, (9, 0, 0, 0, 0, 0, [])),
  (88, (37, 0, 0, 0, 0, 0, [])),
  (89, (55, 0, 0, 78, 299, 679, [])),
  (92, (0, 1, 0, 0, 0, 0, [])),
  (93, (19, 0, 0, 0, 0, 0, [])),
  (94, (56, 0, 0, 78, 299, 679, [])),
  (97, (9, 0, 0, 0, 0, 0, [])),
  (98, (55, 0, 0, 78, 299, 679, [])),
  (101, (64, 0, 0, 0, 0, 0, []))]
def e_X10_seen : Ev := (t_X10_seen, [(81, (3, 1, 0, 0, s_X10_in)), (110, (2, 1, 0, 10, s_X10_comes))], 1, 0, false, 0, fun _ => 0)
def s_X10_seen : Sp := spc e_X10_seen 4
theorem m_X10_seen : monoE e_X10_seen := monoE_of (cons_all (p_X10_in) (cons_all (p_X10_comes) nil_all))
theorem p_X10_seen : mono s_X10_seen := spc_mono m_X10_seen _
theorem k_X10_seen (l : Launch) : Con l y_X10_seen prog_12_method_46_code 4 (Option.some Jvm.ClassFile.FieldType.int) { frames := 2, cells := 0, slots := 0, locals := 43 } 1 0 s_X10_seen := con_of l e_X10_seen y_X10_seen prog_12_method_46_code 4 (Option.some Jvm.ClassFile.FieldType.int) _ (by decide +kernel) (cons_all (clS (k_X10_in l) f_X10_in ⟨rfl, rfl, Nat.le_of_ble_eq_true rfl, Nat.le_of_ble_eq_true rfl⟩ (mg 755 (by decide +kernel))) (cons_all (clV (k_X10_comes l) f_X10_comes ⟨rfl, rfl, Nat.le_of_ble_eq_true rfl, Nat.le_of_ble_eq_true rfl⟩ (mg 800 (by decide +kernel))) nil_all)) (Or.inl (by decide +kernel))
theorem f_X10_seen : calV y_X10_seen prog_12_method_46_code 4 (Option.some Jvm.ClassFile.FieldType.int) 4 9 := ⟨⟨mem_g (i := 924) (by decide +kernel) rfl, mg 34 (by decide +kernel)⟩, by decide +kernel, by decide +kernel, by decide, mg 922 (by decide +kernel), mg 923 (by decide +kernel), _, rfl, rfl⟩
def y_X10_forget : MethodName := ⟨"ActsPaidModel", "forget", "()I"⟩
def t_X10_forget : List (Nat × Ao) := [
  (0, (9, 0, 0, 0, 0, 0, [])),
  (1, (55, 0, 0, 78, 299, 679, [])),
  (4, (13, 0, 0, 1, 0, 0, [])),
  (5, (9, 0, 0, 0, 0, 0, [])),
  (6, (0, 0, 0, 0, 0, 0, [])),
  (7, (56, 0, 0, 78, 299, 679, [])),
  (10, (7, 0, 0, 1, 0, 0, [])),
  (11, (64, 0, 0, 0, 0, 0, []))]
def e_X10_forget : Ev := (t_X10_forget, [], 1, 0, false, 0, fun _ => 0)
def s_X10_forget : Sp := spc e_X10_forget 2
theorem m_X10_forget : monoE e_X10_forget := monoE_of nil_all
theorem p_X10_forget : mono s_X10_forget := spc_mono m_X10_forget _
theorem k_X10_forget (l : Launch) : Con l y_X10_forget prog_12_method_47_code 2 (Option.some Jvm.ClassFile.FieldType.int) { frames := 0, cells := 0, slots := 0, locals := 0 } 1 0 s_X10_forget := con_of l e_X10_forget y_X10_forget prog_12_method_47_code 2 (Option.some Jvm.ClassFile.FieldType.int) _ (by decide +kernel) nil_all (Or.inl (by decide +kernel))
theorem f_X10_forget : calV y_X10_forget prog_12_method_47_code 2 (Option.some Jvm.ClassFile.FieldType.int) 1 9 := ⟨⟨mem_g (i := 928) (by decide +kernel) rfl, mg 34 (by decide +kernel)⟩, by decide +kernel, by decide +kernel, by decide, mg 926 (by decide +kernel), mg 927 (by decide +kernel), _, rfl, rfl⟩
def y_X10_isSeen : MethodName := ⟨"ActsPaidModel", "isSeen", "(I)Z"⟩
def t_X10_isSeen : List (Nat × Ao) := [
  (0, (9, 0, 0, 0, 0, 0, [])),
  (1, (55, 0, 0, 13, 290, 670, [])),
  (4, (13, 0, 0, 2, 0, 0, [])),
  (5, (0, 1, 0, 0, 0, 0, [])),
  (6, (13, 0, 0, 3, 0, 0, [])),
  (7, (0, 0, 0, 0, 0, 0, [])),
  (8, (14, 0, 0, 4, 0, 0, [])),
  (10, (8, 0, 0, 4, 0, 0, [])),
  (12, (9, 0, 0, 0, 0, 0, [])),
  (13, (55, 0, 0, 78, 299, 679, [])),
  (16, (50, 0, 0, 82, 0, 0, [])),
  (19, (9, 0, 0, 0, 0, 0, [])),
  (20, (55, 0, 0, 38, 300, 680, [])),
  (23, (0, 3, 0, 0, 0, 0, [])),
  (24, (8, 0, 0, 4, 0, 0, [])),
  (26, (21, 0, 0, 0, 0, 0, [])),
  (27, (57, 0, 0, 0, 0, 0, [])),
  (28, (7, 0, 0, 1, 0, 0, [])),
  (29, (48, 0, 0, 76, 0, 0, [])),
  (32, (9, 0, 0, 0, 0, 0, [])),
  (33, (9, 0, 0, 0, 0, 0, [])),
  (34, (55, 0, 0, 38, 300, 680, [])),
  (37, (0, 3, 0, 0, 0, 0, [])),
  (38, (8, 0, 0, 4, 0, 0, [])),
  (40, (21, 0, 0, 0, 0, 0, [])),
  (41, (0, 2, 0, 0, 0, 0, [])),
  (42, (19, 0, 0, 0, 0, 0, [])),
  (43, (57, 0, 0, 0, 0, 0, [])),
  (44, (56, 0, 0, 13, 290, 670, [])),
  (47, (7, 0, 0, 3, 0, 0, [])),
  (48, (41, 0, 0, 74, 0, 0, [])),
  (51, (9, 0, 0, 0, 0, 0, [])),
  (52, (7, 0, 0, 1, 0, 0, [])),
  (53, (62, 0, 0, 120, 0, 0, [])),
  (56, (9, 0, 0, 0, 0, 0, [])),
  (57, (55, 0, 0, 38, 300, 680, [])),
  (60, (0, 3, 0, 0, 0, 0, [])),
  (61, (8, 0, 0, 4, 0, 0, [])),
  (63, (21, 0, 0, 0, 0, 0, [])),
  (64, (0, 1, 0, 0, 0, 0, [])),
  (65, (19, 0, 0, 0, 0, 0, [])),
  (66, (57, 0, 0, 0, 0, 0, [])),
  (67, (48, 0, 0, 74, 0, 0, [])),
  (70, (0, 1, 0, 0, 0, 0, [])),
  (71, (40, 0, 0, 75, 0, 0, [])),
  (74, (0, 0, 0, 0, 0, 0, [])),
  (75, (13, 0, 0, 3, 0, 0, [])),
  (76, (39, 1, 0, 4, 0, 0, [])),
  (79, (40, 0, 0, 10, 0, 0, [])),
  (82, (9, 0, 0, 0, 0, 0, [])),
  (83, (7, 0, 0, 2, 0, 0, [])),
  (84, (56, 0, 0, 13, 290, 670, [])),
  (87, (7, 0, 0, 3, 0, 0, [])),
  (88, (64, 0, 0, 0, 0, 0, []))]
def e_X10_isSeen : Ev := (t_X10_isSeen, [(120, (2, 1, 0, 10, s_X10_leavesAt))], 4, 0, false, 0, fun _ => 0)
def s_X10_isSeen : Sp := spc e_X10_isSeen 5
theorem m_X10_isSeen : monoE e_X10_isSeen := monoE_of (cons_all (p_X10_leavesAt) nil_all)
theorem p_X10_isSeen : mono s_X10_isSeen := spc_mono m_X10_isSeen _
theorem k_X10_isSeen (l : Launch) : Con l y_X10_isSeen prog_12_method_48_code 5 (Option.some Jvm.ClassFile.FieldType.boolean) { frames := 2, cells := 0, slots := 0, locals := 47 } 1 0 s_X10_isSeen := con_of l e_X10_isSeen y_X10_isSeen prog_12_method_48_code 5 (Option.some Jvm.ClassFile.FieldType.boolean) _ (by decide +kernel) (cons_all (clV (k_X10_leavesAt l) f_X10_leavesAt ⟨rfl, rfl, Nat.le_of_ble_eq_true rfl, Nat.le_of_ble_eq_true rfl⟩ (mg 816 (by decide +kernel))) nil_all) (Or.inl (by decide +kernel))
theorem f_X10_isSeen : calV y_X10_isSeen prog_12_method_48_code 5 (Option.some Jvm.ClassFile.FieldType.boolean) 2 9 := ⟨⟨mem_g (i := 936) (by decide +kernel) rfl, mg 34 (by decide +kernel)⟩, by decide +kernel, by decide +kernel, by decide, mg 935 (by decide +kernel), mg 21 (by decide +kernel), _, rfl, rfl⟩
def y_X10_fits : MethodName := ⟨"ActsPaidModel", "fits", "(III)I"⟩
def t_X10_fits : List (Nat × Ao) := [
  (0, (9, 0, 0, 0, 0, 0, [])),
  (1, (7, 0, 0, 1, 0, 0, [])),
  (2, (62, 0, 0, 110, 0, 0, [])),
  (5, (41, 0, 0, 16, 0, 0, [])),
  (8, (9, 0, 0, 0, 0, 0, [])),
  (9, (7, 0, 0, 2, 0, 0, [])),
  (10, (62, 0, 0, 95, 0, 0, [])),
  (13, (42, 0, 0, 18, 0, 0, [])),
  (16, (0, (-1), 0, 0, 0, 0, [])),
  (17, (64, 0, 0, 0, 0, 0, [])),
  (18, (7, 0, 0, 3, 0, 0, [])),
  (19, (0, 0, 0, 0, 0, 0, [])),
  (20, (0, 2, 0, 0, 0, 0, [])),
  (21, (63, 0, 0, 81, 0, 0, [])),
  (24, (42, 0, 0, 30, 0, 0, [])),
  (27, (1, (-2), 0, 0, 0, 0, [])),
  (29, (64, 0, 0, 0, 0, 0, [])),
  (30, (9, 0, 0, 0, 0, 0, [])),
  (31, (55, 0, 0, 22, 294, 674, [])),
  (34, (1, 6, 0, 0, 0, 0, [])),
  (36, (7, 0, 0, 1, 0, 0, [])),
  (37, (21, 0, 0, 0, 0, 0, [])),
  (38, (7, 0, 0, 2, 0, 0, [])),
  (39, (19, 0, 0, 0, 0, 0, [])),
  (40, (57, 0, 0, 0, 0, 0, [])),
  (41, (14, 0, 0, 4, 0, 0, [])),
  (43, (0, 0, 0, 0, 0, 0, [])),
  (44, (14, 0, 0, 5, 0, 0, [])),
  (46, (1, (-6), 0, 0, 0, 0, [])),
  (48, (14, 0, 0, 6, 0, 0, [])),
  (50, (1, (-6), 0, 0, 0, 0, [])),
  (52, (14, 0, 0, 7, 0, 0, [])),
  (54, (1, (-10), 0, 0, 0, 0, [])),
  (56, (14, 0, 0, 8, 0, 0, [])),
  (58, (8, 0, 0, 8, 0, 0, [])),
  (60, (1, 25, 0, 0, 0, 0, [])),
  (62, (51, 0, 0, 119, 0, 0, [])),
  (65, (9, 0, 0, 0, 0, 0, [])),
  (66, (55, 0, 0, 22, 294, 674, [])),
  (69, (1, 6, 0, 0, 0, 0, [])),
  (71, (7, 0, 0, 1, 0, 0, [])),
  (72, (21, 0, 0, 0, 0, 0, [])),
  (73, (7, 0, 0, 2, 0, 0, [])),
  (74, (19, 0, 0, 0, 0, 0, [])),
  (75, (8, 0, 0, 8, 0, 0, [])),
  (77, (58, 0, 0, 0, 0, 0, [])),
  (78, (9, 0, 0, 0, 0, 0, [])),
  (79, (7, 0, 0, 1, 0, 0, [])),
  (80, (62, 0, 0, 169, 0, 0, [])),
  (83, (41, 0, 0, 113, 0, 0, [])),
  (86, (8, 0, 0, 5, 0, 0, [])),
  (88, (42, 0, 0, 99, 0, 0, [])),
  (91, (8, 0, 0, 8, 0, 0, [])),
  (93, (1, 10, 0, 0, 0, 0, [])),
  (95, (19, 0, 0, 0, 0, 0, [])),
  (96, (40, 0, 0, 101, 0, 0, [])),
  (99, (8, 0, 0, 6, 0, 0, [])),
  (101, (14, 0, 0, 6, 0, 0, [])),
  (103, (8, 0, 0, 8, 0, 0, [])),
  (105, (1, 10, 0, 0, 0, 0, [])),
  (107, (19, 0, 0, 0, 0, 0, [])),
  (108, (14, 0, 0, 7, 0, 0, [])),
  (110, (39, 1, 0, 5, 0, 0, [])),
  (113, (39, 1, 0, 8, 0, 0, [])),
  (116, (40, 0, 0, 58, 0, 0, [])),
  (119, (9, 0, 0, 0, 0, 0, [])),
  (120, (55, 0, 0, 22, 294, 674, [])),
  (123, (1, 6, 0, 0, 0, 0, [])),
  (125, (7, 0, 0, 1, 0, 0, [])),
  (126, (21, 0, 0, 0, 0, 0, [])),
  (127, (7, 0, 0, 2, 0, 0, [])),
  (128, (19, 0, 0, 0, 0, 0, [])),
  (129, (8, 0, 0, 4, 0, 0, [])),
  (131, (58, 0, 0, 0, 0, 0, [])),
  (132, (7, 0, 0, 3, 0, 0, [])),
  (133, (42, 0, 0, 141, 0, 0, [])),
  (136, (8, 0, 0, 5, 0, 0, [])),
  (138, (40, 0, 0, 153, 0, 0, [])),
  (141, (7, 0, 0, 3, 0, 0, [])),
  (142, (0, 1, 0, 0, 0, 0, [])),
  (143, (48, 0, 0, 151, 0, 0, [])),
  (146, (8, 0, 0, 6, 0, 0, [])),
  (148, (40, 0, 0, 153, 0, 0, [])),
  (151, (8, 0, 0, 7, 0, 0, [])),
  (153, (64, 0, 0, 0, 0, 0, []))]
def e_X10_fits : Ev := (t_X10_fits, [(81, (3, 1, 0, 0, s_X10_in)), (95, (2, 1, 0, 10, s_X10_isAct)), (110, (2, 1, 0, 10, s_X10_comes)), (169, (2, 1, 0, 10, s_X10_isSeen))], 1, 0, false, 0, fun _ => 0)
def s_X10_fits : Sp := spc e_X10_fits 9
theorem m_X10_fits : monoE e_X10_fits := monoE_of (cons_all (p_X10_in) (cons_all (p_X10_isAct) (cons_all (p_X10_comes) (cons_all (p_X10_isSeen) nil_all))))
theorem p_X10_fits : mono s_X10_fits := spc_mono m_X10_fits _
theorem k_X10_fits (l : Launch) : Con l y_X10_fits prog_12_method_49_code 9 (Option.some Jvm.ClassFile.FieldType.int) { frames := 3, cells := 0, slots := 0, locals := 71 } 1 0 s_X10_fits := con_of l e_X10_fits y_X10_fits prog_12_method_49_code 9 (Option.some Jvm.ClassFile.FieldType.int) _ (by decide +kernel) (cons_all (clS (k_X10_in l) f_X10_in ⟨rfl, rfl, Nat.le_of_ble_eq_true rfl, Nat.le_of_ble_eq_true rfl⟩ (mg 755 (by decide +kernel))) (cons_all (clV (k_X10_isAct l) f_X10_isAct ⟨rfl, rfl, Nat.le_of_ble_eq_true rfl, Nat.le_of_ble_eq_true rfl⟩ (mg 782 (by decide +kernel))) (cons_all (clV (k_X10_comes l) f_X10_comes ⟨rfl, rfl, Nat.le_of_ble_eq_true rfl, Nat.le_of_ble_eq_true rfl⟩ (mg 800 (by decide +kernel))) (cons_all (clV (k_X10_isSeen l) f_X10_isSeen ⟨rfl, rfl, Nat.le_of_ble_eq_true rfl, Nat.le_of_ble_eq_true rfl⟩ (mg 933 (by decide +kernel))) nil_all)))) (Or.inl (by decide +kernel))
theorem f_X10_fits : calV y_X10_fits prog_12_method_49_code 9 (Option.some Jvm.ClassFile.FieldType.int) 4 9 := ⟨⟨mem_g (i := 932) (by decide +kernel) rfl, mg 34 (by decide +kernel)⟩, by decide +kernel, by decide +kernel, by decide, mg 930 (by decide +kernel), mg 931 (by decide +kernel), _, rfl, rfl⟩
def y_X10_layPays : MethodName := ⟨"ActsPaidModel", "layPays", "()V"⟩
def t_X10_layPays : List (Nat × Ao) := [
  (0, (0, 0, 0, 0, 0, 0, [])),
  (1, (13, 0, 0, 1, 0, 0, [])),
  (2, (7, 0, 0, 1, 0, 0, [])),
  (3, (1, 8, 0, 0, 0, 0, [])),
  (5, (50, 0, 0, 40, 0, 0, [])),
  (8, (9, 0, 0, 0, 0, 0, [])),
  (9, (55, 0, 0, 62, 312, 692, [])),
  (12, (7, 0, 0, 1, 0, 0, [])),
  (13, (9, 0, 0, 0, 0, 0, [])),
  (14, (55, 0, 0, 75, 289, 669, [])),
  (17, (7, 0, 0, 1, 0, 0, [])),
  (18, (63, 0, 0, 85, 0, 0, [])),
  (21, (41, 0, 0, 32, 0, 0, [])),
  (24, (9, 0, 0, 0, 0, 0, [])),
  (25, (7, 0, 0, 1, 0, 0, [])),
  (26, (62, 0, 0, 123, 0, 0, [])),
  (29, (40, 0, 0, 33, 0, 0, [])),
  (32, (0, 0, 0, 0, 0, 0, [])),
  (33, (58, 0, 0, 0, 0, 0, [])),
  (34, (39, 1, 0, 1, 0, 0, [])),
  (37, (40, 0, 0, 2, 0, 0, [])),
  (40, (66, 0, 0, 0, 0, 0, []))]
def e_X10_layPays : Ev := (t_X10_layPays, [(85, (2, 1, 0, 0, s_X10_has)), (123, (2, 1, 0, 10, s_X10_paysOf))], 0, 0, false, 0, fun _ => 0)
def s_X10_layPays : Sp := spc e_X10_layPays 2
theorem m_X10_layPays : monoE e_X10_layPays := monoE_of (cons_all (p_X10_has) (cons_all (p_X10_paysOf) nil_all))
theorem p_X10_layPays : mono s_X10_layPays := spc_mono m_X10_layPays _
theorem k_X10_layPays (l : Launch) : Con l y_X10_layPays prog_12_method_50_code 2 (Option.none : Option Jvm.ClassFile.FieldType) { frames := 3, cells := 0, slots := 0, locals := 68 } 0 0 s_X10_layPays := con_of l e_X10_layPays y_X10_layPays prog_12_method_50_code 2 (Option.none : Option Jvm.ClassFile.FieldType) _ (by decide +kernel) (cons_all (clS (k_X10_has l) f_X10_has ⟨rfl, rfl, Nat.le_of_ble_eq_true rfl, Nat.le_of_ble_eq_true rfl⟩ (mg 786 (by decide +kernel))) (cons_all (clV (k_X10_paysOf l) f_X10_paysOf ⟨rfl, rfl, Nat.le_of_ble_eq_true rfl, Nat.le_of_ble_eq_true rfl⟩ (mg 832 (by decide +kernel))) nil_all)) (Or.inl (by decide +kernel))
theorem f_X10_layPays : calV y_X10_layPays prog_12_method_50_code 2 (Option.none : Option Jvm.ClassFile.FieldType) 1 9 := ⟨⟨mem_g (i := 945) (by decide +kernel) rfl, mg 34 (by decide +kernel)⟩, by decide +kernel, by decide +kernel, by decide, mg 944 (by decide +kernel), mg 22 (by decide +kernel), _, rfl, rfl⟩
def y_X10_takenOf : MethodName := ⟨"ActsPaidModel", "takenOf", "(I)I"⟩
def t_X10_takenOf : List (Nat × Ao) := [
  (0, (0, 0, 0, 0, 0, 0, [])),
  (1, (13, 0, 0, 2, 0, 0, [])),
  (2, (0, 0, 0, 0, 0, 0, [])),
  (3, (13, 0, 0, 3, 0, 0, [])),
  (4, (7, 0, 0, 3, 0, 0, [])),
  (5, (1, 8, 0, 0, 0, 0, [])),
  (7, (50, 0, 0, 42, 0, 0, [])),
  (10, (7, 0, 0, 2, 0, 0, [])),
  (11, (7, 0, 0, 1, 0, 0, [])),
  (12, (9, 0, 0, 0, 0, 0, [])),
  (13, (55, 0, 0, 75, 289, 669, [])),
  (16, (25, 0, 0, 0, 0, 0, [])),
  (17, (7, 0, 0, 3, 0, 0, [])),
  (18, (63, 0, 0, 85, 0, 0, [])),
  (21, (41, 0, 0, 33, 0, 0, [])),
  (24, (9, 0, 0, 0, 0, 0, [])),
  (25, (55, 0, 0, 62, 312, 692, [])),
  (28, (7, 0, 0, 3, 0, 0, [])),
  (29, (57, 0, 0, 0, 0, 0, [])),
  (30, (40, 0, 0, 34, 0, 0, [])),
  (33, (0, 0, 0, 0, 0, 0, [])),
  (34, (19, 0, 0, 0, 0, 0, [])),
  (35, (13, 0, 0, 2, 0, 0, [])),
  (36, (39, 1, 0, 3, 0, 0, [])),
  (39, (40, 0, 0, 4, 0, 0, [])),
  (42, (7, 0, 0, 2, 0, 0, [])),
  (43, (64, 0, 0, 0, 0, 0, []))]
def e_X10_takenOf : Ev := (t_X10_takenOf, [(85, (2, 1, 0, 0, s_X10_has))], 1, 0, false, 0, fun _ => 0)
def s_X10_takenOf : Sp := spc e_X10_takenOf 4
theorem m_X10_takenOf : monoE e_X10_takenOf := monoE_of (cons_all (p_X10_has) nil_all)
theorem p_X10_takenOf : mono s_X10_takenOf := spc_mono m_X10_takenOf _
theorem k_X10_takenOf (l : Launch) : Con l y_X10_takenOf prog_12_method_51_code 4 (Option.some Jvm.ClassFile.FieldType.int) { frames := 1, cells := 0, slots := 0, locals := 21 } 1 0 s_X10_takenOf := con_of l e_X10_takenOf y_X10_takenOf prog_12_method_51_code 4 (Option.some Jvm.ClassFile.FieldType.int) _ (by decide +kernel) (cons_all (clS (k_X10_has l) f_X10_has ⟨rfl, rfl, Nat.le_of_ble_eq_true rfl, Nat.le_of_ble_eq_true rfl⟩ (mg 786 (by decide +kernel))) nil_all) (Or.inl (by decide +kernel))
theorem f_X10_takenOf : calV y_X10_takenOf prog_12_method_51_code 4 (Option.some Jvm.ClassFile.FieldType.int) 2 9 := ⟨⟨mem_g (i := 949) (by decide +kernel) rfl, mg 34 (by decide +kernel)⟩, by decide +kernel, by decide +kernel, by decide, mg 948 (by decide +kernel), mg 23 (by decide +kernel), _, rfl, rfl⟩
def y_X10_power : MethodName := ⟨"ActsPaidModel", "power", "(JI)J"⟩
def t_X10_power : List (Nat × Ao) := [
  (0, (5, 0, 1, 0, 0, 0, [])),
  (1, (17, 0, 0, 3, 0, 0, [])),
  (2, (0, 0, 0, 0, 0, 0, [])),
  (3, (14, 0, 0, 5, 0, 0, [])),
  (5, (8, 0, 0, 5, 0, 0, [])),
  (7, (7, 0, 0, 2, 0, 0, [])),
  (8, (50, 0, 0, 21, 0, 0, [])),
  (11, (11, 0, 0, 3, 0, 0, [])),
  (12, (11, 0, 0, 0, 0, 0, [])),
  (13, (32, 0, 0, 0, 0, 0, [])),
  (14, (17, 0, 0, 3, 0, 0, [])),
  (15, (39, 1, 0, 5, 0, 0, [])),
  (18, (40, 0, 0, 5, 0, 0, [])),
  (21, (11, 0, 0, 3, 0, 0, [])),
  (22, (65, 0, 0, 0, 0, 0, []))]
def e_X10_power : Ev := (t_X10_power, [], 2, 0, true, 0, fun _ => 0)
def s_X10_power : Sp := spc e_X10_power 6
theorem m_X10_power : monoE e_X10_power := monoE_of nil_all
theorem p_X10_power : mono s_X10_power := spc_mono m_X10_power _
theorem k_X10_power (l : Launch) : Con l y_X10_power prog_12_method_52_code 6 (Option.some Jvm.ClassFile.FieldType.long) { frames := 0, cells := 0, slots := 0, locals := 0 } 2 0 s_X10_power := con_of l e_X10_power y_X10_power prog_12_method_52_code 6 (Option.some Jvm.ClassFile.FieldType.long) _ (by decide +kernel) nil_all (Or.inl (by decide +kernel))
theorem f_X10_power : calS y_X10_power prog_12_method_52_code 6 (Option.some Jvm.ClassFile.FieldType.long) 2 := ⟨⟨mem_g (i := 952) (by decide +kernel) rfl, mg 34 (by decide +kernel)⟩, by decide +kernel, by decide +kernel, mg 951 (by decide +kernel)⟩
def y_X10_odds : MethodName := ⟨"ActsPaidModel", "odds", "(III)J"⟩
def t_X10_odds : List (Nat × Ao) := [
  (0, (7, 0, 0, 1, 0, 0, [])),
  (1, (0, 0, 0, 0, 0, 0, [])),
  (2, (2, 9999, 0, 0, 0, 0, [])),
  (5, (63, 0, 0, 81, 0, 0, [])),
  (8, (41, 0, 0, 30, 0, 0, [])),
  (11, (7, 0, 0, 2, 0, 0, [])),
  (12, (0, 0, 0, 0, 0, 0, [])),
  (13, (1, 10, 0, 0, 0, 0, [])),
  (15, (63, 0, 0, 81, 0, 0, [])),
  (18, (41, 0, 0, 30, 0, 0, [])),
  (21, (7, 0, 0, 3, 0, 0, [])),
  (22, (0, 0, 0, 0, 0, 0, [])),
  (23, (0, 1, 0, 0, 0, 0, [])),
  (24, (63, 0, 0, 81, 0, 0, [])),
  (27, (42, 0, 0, 34, 0, 0, [])),
  (30, (6, 0, (-1000000000000000002), 172, 0, 941, [])),
  (33, (65, 0, 0, 0, 0, 0, [])),
  (34, (9, 0, 0, 0, 0, 0, [])),
  (35, (62, 0, 0, 174, 0, 0, [])),
  (38, (9, 0, 0, 0, 0, 0, [])),
  (39, (55, 0, 0, 75, 289, 669, [])),
  (42, (63, 0, 0, 106, 0, 0, [])),
  (45, (14, 0, 0, 4, 0, 0, [])),
  (47, (5, 0, 0, 0, 0, 0, [])),
  (48, (18, 0, 0, 5, 0, 0, [])),
  (50, (0, 0, 0, 0, 0, 0, [])),
  (51, (14, 0, 0, 7, 0, 0, [])),
  (53, (8, 0, 0, 7, 0, 0, [])),
  (55, (2, 256, 0, 0, 0, 0, [])),
  (58, (50, 0, 0, 121, 0, 0, [])),
  (61, (8, 0, 0, 7, 0, 0, [])),
  (63, (9, 0, 0, 0, 0, 0, [])),
  (64, (55, 0, 0, 75, 289, 669, [])),
  (67, (0, (-1), 0, 0, 0, 0, [])),
  (68, (27, 0, 0, 0, 0, 0, [])),
  (69, (25, 0, 0, 0, 0, 0, [])),
  (70, (42, 0, 0, 115, 0, 0, [])),
  (73, (9, 0, 0, 0, 0, 0, [])),
  (74, (8, 0, 0, 7, 0, 0, [])),
  (76, (62, 0, 0, 177, 0, 0, [])),
  (79, (7, 0, 0, 1, 0, 0, [])),
  (80, (49, 0, 0, 115, 0, 0, [])),
  (83, (12, 0, 0, 5, 0, 0, [])),
  (85, (7, 0, 0, 2, 0, 0, [])),
  (86, (36, 0, 0, 0, 0, 0, [])),
  (87, (8, 0, 0, 7, 0, 0, [])),
  (89, (63, 0, 0, 106, 0, 0, [])),
  (92, (63, 0, 0, 180, 0, 0, [])),
  (95, (1, 10, 0, 0, 0, 0, [])),
  (97, (7, 0, 0, 2, 0, 0, [])),
  (98, (20, 0, 0, 0, 0, 0, [])),
  (99, (36, 0, 0, 0, 0, 0, [])),
  (100, (8, 0, 0, 4, 0, 0, [])),
  (102, (8, 0, 0, 7, 0, 0, [])),
  (104, (63, 0, 0, 106, 0, 0, [])),
  (107, (20, 0, 0, 0, 0, 0, [])),
  (108, (63, 0, 0, 180, 0, 0, [])),
  (111, (32, 0, 0, 0, 0, 0, [])),
  (112, (31, 0, 0, 0, 0, 0, [])),
  (113, (18, 0, 0, 5, 0, 0, [])),
  (115, (39, 1, 0, 7, 0, 0, [])),
  (118, (40, 0, 0, 53, 0, 0, [])),
  (121, (6, 0, 10, 184, 0, 953, [])),
  (124, (8, 0, 0, 4, 0, 0, [])),
  (126, (63, 0, 0, 180, 0, 0, [])),
  (129, (18, 0, 0, 7, 0, 0, [])),
  (131, (12, 0, 0, 5, 0, 0, [])),
  (133, (18, 0, 0, 9, 0, 0, [])),
  (135, (12, 0, 0, 7, 0, 0, [])),
  (137, (18, 0, 0, 11, 0, 0, [])),
  (139, (12, 0, 0, 11, 0, 0, [])),
  (141, (5, 0, 0, 0, 0, 0, [])),
  (142, (35, 0, 0, 0, 0, 0, [])),
  (143, (41, 0, 0, 164, 0, 0, [])),
  (146, (12, 0, 0, 9, 0, 0, [])),
  (148, (12, 0, 0, 11, 0, 0, [])),
  (150, (34, 0, 0, 0, 0, 0, [])),
  (151, (18, 0, 0, 13, 0, 0, [])),
  (153, (12, 0, 0, 11, 0, 0, [])),
  (155, (18, 0, 0, 9, 0, 0, [])),
  (157, (12, 0, 0, 13, 0, 0, [])),
  (159, (18, 0, 0, 11, 0, 0, [])),
  (161, (40, 0, 0, 139, 0, 0, [])),
  (164, (7, 0, 0, 3, 0, 0, [])),
  (165, (42, 0, 0, 176, 0, 0, [])),
  (168, (12, 0, 0, 5, 0, 0, [])),
  (170, (12, 0, 0, 9, 0, 0, [])),
  (172, (33, 0, 0, 0, 0, 0, [])),
  (173, (40, 0, 0, 181, 0, 0, [])),
  (176, (12, 0, 0, 7, 0, 0, [])),
  (178, (12, 0, 0, 9, 0, 0, [])),
  (180, (33, 0, 0, 0, 0, 0, [])),
  (181, (65, 0, 0, 0, 0, 0, []))]
def e_X10_odds : Ev := (t_X10_odds, [(81, (3, 1, 0, 0, s_X10_in)), (106, (1, 1, 0, 0, s_X10_bits)), (174, (1, 0, 0, 10, s_X10_layPays)), (177, (2, 1, 0, 10, s_X10_takenOf)), (180, (2, 2, 0, 0, s_X10_power))], 2, 0, true, 0, fun _ => 0)
def s_X10_odds : Sp := spc e_X10_odds 15
theorem m_X10_odds : monoE e_X10_odds := monoE_of (cons_all (p_X10_in) (cons_all (p_X10_bits) (cons_all (p_X10_layPays) (cons_all (p_X10_takenOf) (cons_all (p_X10_power) nil_all)))))
theorem p_X10_odds : mono s_X10_odds := spc_mono m_X10_odds _
theorem k_X10_odds (l : Launch) : Con l y_X10_odds prog_12_method_53_code 15 (Option.some Jvm.ClassFile.FieldType.long) { frames := 4, cells := 0, slots := 0, locals := 89 } 2 0 s_X10_odds := con_of l e_X10_odds y_X10_odds prog_12_method_53_code 15 (Option.some Jvm.ClassFile.FieldType.long) _ (by decide +kernel) (cons_all (clS (k_X10_in l) f_X10_in ⟨rfl, rfl, Nat.le_of_ble_eq_true rfl, Nat.le_of_ble_eq_true rfl⟩ (mg 755 (by decide +kernel))) (cons_all (clS (k_X10_bits l) f_X10_bits ⟨rfl, rfl, Nat.le_of_ble_eq_true rfl, Nat.le_of_ble_eq_true rfl⟩ (mg 793 (by decide +kernel))) (cons_all (clV (k_X10_layPays l) f_X10_layPays ⟨rfl, rfl, Nat.le_of_ble_eq_true rfl, Nat.le_of_ble_eq_true rfl⟩ (mg 942 (by decide +kernel))) (cons_all (clV (k_X10_takenOf l) f_X10_takenOf ⟨rfl, rfl, Nat.le_of_ble_eq_true rfl, Nat.le_of_ble_eq_true rfl⟩ (mg 946 (by decide +kernel))) (cons_all (clS (k_X10_power l) f_X10_power ⟨rfl, rfl, Nat.le_of_ble_eq_true rfl, Nat.le_of_ble_eq_true rfl⟩ (mg 950 (by decide +kernel))) nil_all))))) (Or.inl (by decide +kernel))
theorem f_X10_odds : calV y_X10_odds prog_12_method_53_code 15 (Option.some Jvm.ClassFile.FieldType.long) 4 9 := ⟨⟨mem_g (i := 940) (by decide +kernel) rfl, mg 34 (by decide +kernel)⟩, by decide +kernel, by decide +kernel, by decide, mg 938 (by decide +kernel), mg 939 (by decide +kernel), _, rfl, rfl⟩
def y_X10_year : MethodName := ⟨"ActsPaidModel", "year", "(III)I"⟩
def t_X10_year : List (Nat × Ao) := [
  (0, (7, 0, 0, 1, 0, 0, [])),
  (1, (0, 0, 0, 0, 0, 0, [])),
  (2, (2, 9999, 0, 0, 0, 0, [])),
  (5, (63, 0, 0, 81, 0, 0, [])),
  (8, (41, 0, 0, 30, 0, 0, [])),
  (11, (7, 0, 0, 2, 0, 0, [])),
  (12, (0, 1, 0, 0, 0, 0, [])),
  (13, (1, 99, 0, 0, 0, 0, [])),
  (15, (63, 0, 0, 81, 0, 0, [])),
  (18, (41, 0, 0, 30, 0, 0, [])),
  (21, (7, 0, 0, 3, 0, 0, [])),
  (22, (0, 0, 0, 0, 0, 0, [])),
  (23, (0, 1, 0, 0, 0, 0, [])),
  (24, (63, 0, 0, 81, 0, 0, [])),
  (27, (42, 0, 0, 33, 0, 0, [])),
  (30, (1, (-2), 0, 0, 0, 0, [])),
  (32, (64, 0, 0, 0, 0, 0, [])),
  (33, (9, 0, 0, 0, 0, 0, [])),
  (34, (62, 0, 0, 174, 0, 0, [])),
  (37, (7, 0, 0, 1, 0, 0, [])),
  (38, (14, 0, 0, 4, 0, 0, [])),
  (40, (0, 0, 0, 0, 0, 0, [])),
  (41, (14, 0, 0, 5, 0, 0, [])),
  (43, (0, 0, 0, 0, 0, 0, [])),
  (44, (14, 0, 0, 6, 0, 0, [])),
  (46, (0, 0, 0, 0, 0, 0, [])),
  (47, (14, 0, 0, 7, 0, 0, [])),
  (49, (8, 0, 0, 7, 0, 0, [])),
  (51, (7, 0, 0, 2, 0, 0, [])),
  (52, (50, 0, 0, 109, 0, 0, [])),
  (55, (1, 75, 0, 0, 0, 0, [])),
  (57, (8, 0, 0, 4, 0, 0, [])),
  (59, (21, 0, 0, 0, 0, 0, [])),
  (60, (1, 74, 0, 0, 0, 0, [])),
  (62, (19, 0, 0, 0, 0, 0, [])),
  (63, (3, 65537, 0, 186, 0, 958, [])),
  (65, (23, 0, 0, 0, 0, 0, [])),
  (66, (14, 0, 0, 4, 0, 0, [])),
  (68, (9, 0, 0, 0, 0, 0, [])),
  (69, (8, 0, 0, 4, 0, 0, [])),
  (71, (2, 256, 0, 0, 0, 0, [])),
  (74, (23, 0, 0, 0, 0, 0, [])),
  (75, (62, 0, 0, 177, 0, 0, [])),
  (78, (14, 0, 0, 8, 0, 0, [])),
  (80, (8, 0, 0, 5, 0, 0, [])),
  (82, (8, 0, 0, 8, 0, 0, [])),
  (84, (19, 0, 0, 0, 0, 0, [])),
  (85, (14, 0, 0, 5, 0, 0, [])),
  (87, (8, 0, 0, 8, 0, 0, [])),
  (89, (8, 0, 0, 6, 0, 0, [])),
  (91, (52, 0, 0, 99, 0, 0, [])),
  (94, (8, 0, 0, 8, 0, 0, [])),
  (96, (40, 0, 0, 101, 0, 0, [])),
  (99, (8, 0, 0, 6, 0, 0, [])),
  (101, (14, 0, 0, 6, 0, 0, [])),
  (103, (39, 1, 0, 7, 0, 0, [])),
  (106, (40, 0, 0, 49, 0, 0, [])),
  (109, (7, 0, 0, 3, 0, 0, [])),
  (110, (42, 0, 0, 118, 0, 0, [])),
  (113, (8, 0, 0, 5, 0, 0, [])),
  (115, (40, 0, 0, 120, 0, 0, [])),
  (118, (8, 0, 0, 6, 0, 0, [])),
  (120, (64, 0, 0, 0, 0, 0, []))]
def e_X10_year : Ev := (t_X10_year, [(81, (3, 1, 0, 0, s_X10_in)), (174, (1, 0, 0, 10, s_X10_layPays)), (177, (2, 1, 0, 10, s_X10_takenOf))], 1, 0, false, 0, fun _ => 0)
def s_X10_year : Sp := spc e_X10_year 9
theorem m_X10_year : monoE e_X10_year := monoE_of (cons_all (p_X10_in) (cons_all (p_X10_layPays) (cons_all (p_X10_takenOf) nil_all)))
theorem p_X10_year : mono s_X10_year := spc_mono m_X10_year _
theorem k_X10_year (l : Launch) : Con l y_X10_year prog_12_method_54_code 9 (Option.some Jvm.ClassFile.FieldType.int) { frames := 4, cells := 0, slots := 0, locals := 89 } 1 0 s_X10_year := con_of l e_X10_year y_X10_year prog_12_method_54_code 9 (Option.some Jvm.ClassFile.FieldType.int) _ (by decide +kernel) (cons_all (clS (k_X10_in l) f_X10_in ⟨rfl, rfl, Nat.le_of_ble_eq_true rfl, Nat.le_of_ble_eq_true rfl⟩ (mg 755 (by decide +kernel))) (cons_all (clV (k_X10_layPays l) f_X10_layPays ⟨rfl, rfl, Nat.le_of_ble_eq_true rfl, Nat.le_of_ble_eq_true rfl⟩ (mg 942 (by decide +kernel))) (cons_all (clV (k_X10_takenOf l) f_X10_takenOf ⟨rfl, rfl, Nat.le_of_ble_eq_true rfl, Nat.le_of_ble_eq_true rfl⟩ (mg 946 (by decide +kernel))) nil_all))) (Or.inl (by decide +kernel))
theorem f_X10_year : calV y_X10_year prog_12_method_54_code 9 (Option.some Jvm.ClassFile.FieldType.int) 4 9 := ⟨⟨mem_g (i := 957) (by decide +kernel) rfl, mg 34 (by decide +kernel)⟩, by decide +kernel, by decide +kernel, by decide, mg 955 (by decide +kernel), mg 956 (by decide +kernel), _, rfl, rfl⟩
def y_X10_image : MethodName := ⟨"ActsPaidModel", "image", "(I)I"⟩
def t_X10_image : List (Nat × Ao) := [
  (0, (7, 0, 0, 1, 0, 0, [])),
  (1, (0, 0, 0, 0, 0, 0, [])),
  (2, (0, 1, 0, 0, 0, 0, [])),
  (3, (63, 0, 0, 81, 0, 0, [])),
  (6, (42, 0, 0, 12, 0, 0, [])),
  (9, (1, (-2), 0, 0, 0, 0, [])),
  (11, (64, 0, 0, 0, 0, 0, [])),
  (12, (1, 100, 0, 0, 0, 0, [])),
  (14, (7, 0, 0, 1, 0, 0, [])),
  (15, (21, 0, 0, 0, 0, 0, [])),
  (16, (13, 0, 0, 2, 0, 0, [])),
  (17, (0, 0, 0, 0, 0, 0, [])),
  (18, (13, 0, 0, 3, 0, 0, [])),
  (19, (7, 0, 0, 3, 0, 0, [])),
  (20, (1, 48, 0, 0, 0, 0, [])),
  (22, (50, 0, 0, 45, 0, 0, [])),
  (25, (9, 0, 0, 0, 0, 0, [])),
  (26, (55, 0, 0, 65, 313, 693, [])),
  (29, (7, 0, 0, 2, 0, 0, [])),
  (30, (7, 0, 0, 3, 0, 0, [])),
  (31, (19, 0, 0, 0, 0, 0, [])),
  (32, (9, 0, 0, 0, 0, 0, [])),
  (33, (55, 0, 0, 22, 294, 674, [])),
  (36, (7, 0, 0, 3, 0, 0, [])),
  (37, (57, 0, 0, 0, 0, 0, [])),
  (38, (58, 0, 0, 0, 0, 0, [])),
  (39, (39, 1, 0, 3, 0, 0, [])),
  (42, (40, 0, 0, 19, 0, 0, [])),
  (45, (0, 0, 0, 0, 0, 0, [])),
  (46, (13, 0, 0, 3, 0, 0, [])),
  (47, (7, 0, 0, 3, 0, 0, [])),
  (48, (1, 6, 0, 0, 0, 0, [])),
  (50, (50, 0, 0, 110, 0, 0, [])),
  (53, (9, 0, 0, 0, 0, 0, [])),
  (54, (55, 0, 0, 65, 313, 693, [])),
  (57, (7, 0, 0, 2, 0, 0, [])),
  (58, (1, 48, 0, 0, 0, 0, [])),
  (60, (19, 0, 0, 0, 0, 0, [])),
  (61, (7, 0, 0, 3, 0, 0, [])),
  (62, (19, 0, 0, 0, 0, 0, [])),
  (63, (9, 0, 0, 0, 0, 0, [])),
  (64, (55, 0, 0, 26, 295, 675, [])),
  (67, (7, 0, 0, 3, 0, 0, [])),
  (68, (57, 0, 0, 0, 0, 0, [])),
  (69, (58, 0, 0, 0, 0, 0, [])),
  (70, (9, 0, 0, 0, 0, 0, [])),
  (71, (55, 0, 0, 65, 313, 693, [])),
  (74, (7, 0, 0, 2, 0, 0, [])),
  (75, (1, 54, 0, 0, 0, 0, [])),
  (77, (19, 0, 0, 0, 0, 0, [])),
  (78, (7, 0, 0, 3, 0, 0, [])),
  (79, (19, 0, 0, 0, 0, 0, [])),
  (80, (9, 0, 0, 0, 0, 0, [])),
  (81, (55, 0, 0, 29, 296, 676, [])),
  (84, (7, 0, 0, 3, 0, 0, [])),
  (85, (57, 0, 0, 0, 0, 0, [])),
  (86, (58, 0, 0, 0, 0, 0, [])),
  (87, (9, 0, 0, 0, 0, 0, [])),
  (88, (55, 0, 0, 65, 313, 693, [])),
  (91, (7, 0, 0, 2, 0, 0, [])),
  (92, (1, 60, 0, 0, 0, 0, [])),
  (94, (19, 0, 0, 0, 0, 0, [])),
  (95, (7, 0, 0, 3, 0, 0, [])),
  (96, (19, 0, 0, 0, 0, 0, [])),
  (97, (9, 0, 0, 0, 0, 0, [])),
  (98, (55, 0, 0, 32, 297, 677, [])),
  (101, (7, 0, 0, 3, 0, 0, [])),
  (102, (57, 0, 0, 0, 0, 0, [])),
  (103, (58, 0, 0, 0, 0, 0, [])),
  (104, (39, 1, 0, 3, 0, 0, [])),
  (107, (40, 0, 0, 47, 0, 0, [])),
  (110, (0, 0, 0, 0, 0, 0, [])),
  (111, (13, 0, 0, 3, 0, 0, [])),
  (112, (7, 0, 0, 3, 0, 0, [])),
  (113, (1, 18, 0, 0, 0, 0, [])),
  (115, (50, 0, 0, 141, 0, 0, [])),
  (118, (9, 0, 0, 0, 0, 0, [])),
  (119, (55, 0, 0, 65, 313, 693, [])),
  (122, (7, 0, 0, 2, 0, 0, [])),
  (123, (1, 66, 0, 0, 0, 0, [])),
  (125, (19, 0, 0, 0, 0, 0, [])),
  (126, (7, 0, 0, 3, 0, 0, [])),
  (127, (19, 0, 0, 0, 0, 0, [])),
  (128, (9, 0, 0, 0, 0, 0, [])),
  (129, (55, 0, 0, 38, 300, 680, [])),
  (132, (7, 0, 0, 3, 0, 0, [])),
  (133, (57, 0, 0, 0, 0, 0, [])),
  (134, (58, 0, 0, 0, 0, 0, [])),
  (135, (39, 1, 0, 3, 0, 0, [])),
  (138, (40, 0, 0, 112, 0, 0, [])),
  (141, (0, 0, 0, 0, 0, 0, [])),
  (142, (13, 0, 0, 3, 0, 0, [])),
  (143, (7, 0, 0, 3, 0, 0, [])),
  (144, (1, 8, 0, 0, 0, 0, [])),
  (146, (50, 0, 0, 172, 0, 0, [])),
  (149, (9, 0, 0, 0, 0, 0, [])),
  (150, (55, 0, 0, 65, 313, 693, [])),
  (153, (7, 0, 0, 2, 0, 0, [])),
  (154, (1, 91, 0, 0, 0, 0, [])),
  (156, (19, 0, 0, 0, 0, 0, [])),
  (157, (7, 0, 0, 3, 0, 0, [])),
  (158, (19, 0, 0, 0, 0, 0, [])),
  (159, (9, 0, 0, 0, 0, 0, [])),
  (160, (55, 0, 0, 35, 298, 678, [])),
  (163, (7, 0, 0, 3, 0, 0, [])),
  (164, (57, 0, 0, 0, 0, 0, [])),
  (165, (58, 0, 0, 0, 0, 0, [])),
  (166, (39, 1, 0, 3, 0, 0, [])),
  (169, (40, 0, 0, 143, 0, 0, [])),
  (172, (9, 0, 0, 0, 0, 0, [])),
  (173, (55, 0, 0, 65, 313, 693, [])),
  (176, (7, 0, 0, 2, 0, 0, [])),
  (177, (1, 84, 0, 0, 0, 0, [])),
  (179, (19, 0, 0, 0, 0, 0, [])),
  (180, (9, 0, 0, 0, 0, 0, [])),
  (181, (55, 0, 0, 7, 288, 668, [])),
  (184, (58, 0, 0, 0, 0, 0, [])),
  (185, (9, 0, 0, 0, 0, 0, [])),
  (186, (55, 0, 0, 65, 313, 693, [])),
  (189, (7, 0, 0, 2, 0, 0, [])),
  (190, (1, 85, 0, 0, 0, 0, [])),
  (192, (19, 0, 0, 0, 0, 0, [])),
  (193, (9, 0, 0, 0, 0, 0, [])),
  (194, (55, 0, 0, 75, 289, 669, [])),
  (197, (58, 0, 0, 0, 0, 0, [])),
  (198, (9, 0, 0, 0, 0, 0, [])),
  (199, (55, 0, 0, 65, 313, 693, [])),
  (202, (7, 0, 0, 2, 0, 0, [])),
  (203, (1, 86, 0, 0, 0, 0, [])),
  (205, (19, 0, 0, 0, 0, 0, [])),
  (206, (9, 0, 0, 0, 0, 0, [])),
  (207, (55, 0, 0, 13, 290, 670, [])),
  (210, (58, 0, 0, 0, 0, 0, [])),
  (211, (9, 0, 0, 0, 0, 0, [])),
  (212, (55, 0, 0, 65, 313, 693, [])),
  (215, (7, 0, 0, 2, 0, 0, [])),
  (216, (1, 87, 0, 0, 0, 0, [])),
  (218, (19, 0, 0, 0, 0, 0, [])),
  (219, (9, 0, 0, 0, 0, 0, [])),
  (220, (55, 0, 0, 16, 291, 671, [])),
  (223, (58, 0, 0, 0, 0, 0, [])),
  (224, (9, 0, 0, 0, 0, 0, [])),
  (225, (55, 0, 0, 65, 313, 693, [])),
  (228, (7, 0, 0, 2, 0, 0, [])),
  (229, (1, 88, 0, 0, 0, 0, [])),
  (231, (19, 0, 0, 0, 0, 0, [])),
  (232, (9, 0, 0, 0, 0, 0, [])),
  (233, (55, 0, 0, 89, 292, 672, [])),
  (236, (58, 0, 0, 0, 0, 0, [])),
  (237, (9, 0, 0, 0, 0, 0, [])),
  (238, (55, 0, 0, 65, 313, 693, [])),
  (241, (7, 0, 0, 2, 0, 0, [])),
  (242, (1, 89, 0, 0, 0, 0, [])),
  (244, (19, 0, 0, 0, 0, 0, [])),
  (245, (9, 0, 0, 0, 0, 0, [])),
  (246, (55, 0, 0, 19, 293, 673, [])),
  (249, (58, 0, 0, 0, 0, 0, [])),
  (250, (9, 0, 0, 0, 0, 0, [])),
  (251, (55, 0, 0, 65, 313, 693, [])),
  (254, (7, 0, 0, 2, 0, 0, [])),
  (255, (1, 90, 0, 0, 0, 0, [])),
  (257, (19, 0, 0, 0, 0, 0, [])),
  (258, (9, 0, 0, 0, 0, 0, [])),
  (259, (55, 0, 0, 78, 299, 679, [])),
  (262, (58, 0, 0, 0, 0, 0, [])),
  (263, (9, 0, 0, 0, 0, 0, [])),
  (264, (55, 0, 0, 68, 314, 694, [])),
  (267, (7, 0, 0, 1, 0, 0, [])),
  (268, (0, 1, 0, 0, 0, 0, [])),
  (269, (60, 0, 0, 0, 0, 0, [])),
  (270, (0, 1, 0, 0, 0, 0, [])),
  (271, (64, 0, 0, 0, 0, 0, []))]
def e_X10_image : Ev := (t_X10_image, [(81, (3, 1, 0, 0, s_X10_in))], 1, 0, false, 0, fun _ => 0)
def s_X10_image : Sp := spc e_X10_image 4
theorem m_X10_image : monoE e_X10_image := monoE_of (cons_all (p_X10_in) nil_all)
theorem p_X10_image : mono s_X10_image := spc_mono m_X10_image _
theorem k_X10_image (l : Launch) : Con l y_X10_image prog_12_method_55_code 4 (Option.some Jvm.ClassFile.FieldType.int) { frames := 1, cells := 0, slots := 0, locals := 22 } 1 0 s_X10_image := con_of l e_X10_image y_X10_image prog_12_method_55_code 4 (Option.some Jvm.ClassFile.FieldType.int) _ (by decide +kernel) (cons_all (clS (k_X10_in l) f_X10_in ⟨rfl, rfl, Nat.le_of_ble_eq_true rfl, Nat.le_of_ble_eq_true rfl⟩ (mg 755 (by decide +kernel))) nil_all) (Or.inl (by decide +kernel))
theorem f_X10_image : calV y_X10_image prog_12_method_55_code 4 (Option.some Jvm.ClassFile.FieldType.int) 2 9 := ⟨⟨mem_g (i := 962) (by decide +kernel) rfl, mg 34 (by decide +kernel)⟩, by decide +kernel, by decide +kernel, by decide, mg 960 (by decide +kernel), mg 961 (by decide +kernel), _, rfl, rfl⟩
def y_X10_restore : MethodName := ⟨"ActsPaidModel", "restore", "(I)I"⟩
def t_X10_restore : List (Nat × Ao) := [
  (0, (7, 0, 0, 1, 0, 0, [])),
  (1, (0, 0, 0, 0, 0, 0, [])),
  (2, (0, 1, 0, 0, 0, 0, [])),
  (3, (63, 0, 0, 81, 0, 0, [])),
  (6, (42, 0, 0, 12, 0, 0, [])),
  (9, (1, (-2), 0, 0, 0, 0, [])),
  (11, (64, 0, 0, 0, 0, 0, [])),
  (12, (9, 0, 0, 0, 0, 0, [])),
  (13, (55, 0, 0, 68, 314, 694, [])),
  (16, (7, 0, 0, 1, 0, 0, [])),
  (17, (59, 0, 0, 0, 0, 0, [])),
  (18, (42, 0, 0, 24, 0, 0, [])),
  (21, (1, (-3), 0, 0, 0, 0, [])),
  (23, (64, 0, 0, 0, 0, 0, [])),
  (24, (1, 100, 0, 0, 0, 0, [])),
  (26, (7, 0, 0, 1, 0, 0, [])),
  (27, (21, 0, 0, 0, 0, 0, [])),
  (28, (13, 0, 0, 2, 0, 0, [])),
  (29, (0, 0, 0, 0, 0, 0, [])),
  (30, (13, 0, 0, 3, 0, 0, [])),
  (31, (7, 0, 0, 3, 0, 0, [])),
  (32, (1, 48, 0, 0, 0, 0, [])),
  (34, (50, 0, 0, 57, 0, 0, [])),
  (37, (9, 0, 0, 0, 0, 0, [])),
  (38, (55, 0, 0, 22, 294, 674, [])),
  (41, (7, 0, 0, 3, 0, 0, [])),
  (42, (9, 0, 0, 0, 0, 0, [])),
  (43, (55, 0, 0, 65, 313, 693, [])),
  (46, (7, 0, 0, 2, 0, 0, [])),
  (47, (7, 0, 0, 3, 0, 0, [])),
  (48, (19, 0, 0, 0, 0, 0, [])),
  (49, (57, 0, 0, 0, 0, 0, [])),
  (50, (58, 0, 0, 0, 0, 0, [])),
  (51, (39, 1, 0, 3, 0, 0, [])),
  (54, (40, 0, 0, 31, 0, 0, [])),
  (57, (0, 0, 0, 0, 0, 0, [])),
  (58, (13, 0, 0, 3, 0, 0, [])),
  (59, (7, 0, 0, 3, 0, 0, [])),
  (60, (1, 6, 0, 0, 0, 0, [])),
  (62, (50, 0, 0, 122, 0, 0, [])),
  (65, (9, 0, 0, 0, 0, 0, [])),
  (66, (55, 0, 0, 26, 295, 675, [])),
  (69, (7, 0, 0, 3, 0, 0, [])),
  (70, (9, 0, 0, 0, 0, 0, [])),
  (71, (55, 0, 0, 65, 313, 693, [])),
  (74, (7, 0, 0, 2, 0, 0, [])),
  (75, (1, 48, 0, 0, 0, 0, [])),
  (77, (19, 0, 0, 0, 0, 0, [])),
  (78, (7, 0, 0, 3, 0, 0, [])),
  (79, (19, 0, 0, 0, 0, 0, [])),
  (80, (57, 0, 0, 0, 0, 0, [])),
  (81, (58, 0, 0, 0, 0, 0, [])),
  (82, (9, 0, 0, 0, 0, 0, [])),
  (83, (55, 0, 0, 29, 296, 676, [])),
  (86, (7, 0, 0, 3, 0, 0, [])),
  (87, (9, 0, 0, 0, 0, 0, [])),
  (88, (55, 0, 0, 65, 313, 693, [])),
  (91, (7, 0, 0, 2, 0, 0, [])),
  (92, (1, 54, 0, 0, 0, 0, [])),
  (94, (19, 0, 0, 0, 0, 0, [])),
  (95, (7, 0, 0, 3, 0, 0, [])),
  (96, (19, 0, 0, 0, 0, 0, [])),
  (97, (57, 0, 0, 0, 0, 0, [])),
  (98, (58, 0, 0, 0, 0, 0, [])),
  (99, (9, 0, 0, 0, 0, 0, [])),
  (100, (55, 0, 0, 32, 297, 677, [])),
  (103, (7, 0, 0, 3, 0, 0, [])),
  (104, (9, 0, 0, 0, 0, 0, [])),
  (105, (55, 0, 0, 65, 313, 693, [])),
  (108, (7, 0, 0, 2, 0, 0, [])),
  (109, (1, 60, 0, 0, 0, 0, [])),
  (111, (19, 0, 0, 0, 0, 0, [])),
  (112, (7, 0, 0, 3, 0, 0, [])),
  (113, (19, 0, 0, 0, 0, 0, [])),
  (114, (57, 0, 0, 0, 0, 0, [])),
  (115, (58, 0, 0, 0, 0, 0, [])),
  (116, (39, 1, 0, 3, 0, 0, [])),
  (119, (40, 0, 0, 59, 0, 0, [])),
  (122, (0, 0, 0, 0, 0, 0, [])),
  (123, (13, 0, 0, 3, 0, 0, [])),
  (124, (7, 0, 0, 3, 0, 0, [])),
  (125, (1, 18, 0, 0, 0, 0, [])),
  (127, (50, 0, 0, 153, 0, 0, [])),
  (130, (9, 0, 0, 0, 0, 0, [])),
  (131, (55, 0, 0, 38, 300, 680, [])),
  (134, (7, 0, 0, 3, 0, 0, [])),
  (135, (9, 0, 0, 0, 0, 0, [])),
  (136, (55, 0, 0, 65, 313, 693, [])),
  (139, (7, 0, 0, 2, 0, 0, [])),
  (140, (1, 66, 0, 0, 0, 0, [])),
  (142, (19, 0, 0, 0, 0, 0, [])),
  (143, (7, 0, 0, 3, 0, 0, [])),
  (144, (19, 0, 0, 0, 0, 0, [])),
  (145, (57, 0, 0, 0, 0, 0, [])),
  (146, (58, 0, 0, 0, 0, 0, [])),
  (147, (39, 1, 0, 3, 0, 0, [])),
  (150, (40, 0, 0, 124, 0, 0, [])),
  (153, (0, 0, 0, 0, 0, 0, [])),
  (154, (13, 0, 0, 3, 0, 0, [])),
  (155, (7, 0, 0, 3, 0, 0, [])),
  (156, (1, 8, 0, 0, 0, 0, [])),
  (158, (50, 0, 0, 184, 0, 0, [])),
  (161, (9, 0, 0, 0, 0, 0, [])),
  (162, (55, 0, 0, 35, 298, 678, [])),
  (165, (7, 0, 0, 3, 0, 0, [])),
  (166, (9, 0, 0, 0, 0, 0, [])),
  (167, (55, 0, 0, 65, 313, 693, [])),
  (170, (7, 0, 0, 2, 0, 0, [])),
  (171, (1, 91, 0, 0, 0, 0, [])),
  (173, (19, 0, 0, 0, 0, 0, [])),
  (174, (7, 0, 0, 3, 0, 0, [])),
  (175, (19, 0, 0, 0, 0, 0, [])),
  (176, (57, 0, 0, 0, 0, 0, [])),
  (177, (58, 0, 0, 0, 0, 0, [])),
  (178, (39, 1, 0, 3, 0, 0, [])),
  (181, (40, 0, 0, 155, 0, 0, [])),
  (184, (9, 0, 0, 0, 0, 0, [])),
  (185, (9, 0, 0, 0, 0, 0, [])),
  (186, (55, 0, 0, 65, 313, 693, [])),
  (189, (7, 0, 0, 2, 0, 0, [])),
  (190, (1, 84, 0, 0, 0, 0, [])),
  (192, (19, 0, 0, 0, 0, 0, [])),
  (193, (57, 0, 0, 0, 0, 0, [])),
  (194, (56, 0, 0, 7, 288, 668, [])),
  (197, (9, 0, 0, 0, 0, 0, [])),
  (198, (9, 0, 0, 0, 0, 0, [])),
  (199, (55, 0, 0, 65, 313, 693, [])),
  (202, (7, 0, 0, 2, 0, 0, [])),
  (203, (1, 85, 0, 0, 0, 0, [])),
  (205, (19, 0, 0, 0, 0, 0, [])),
  (206, (57, 0, 0, 0, 0, 0, [])),
  (207, (56, 0, 0, 75, 289, 669, [])),
  (210, (9, 0, 0, 0, 0, 0, [])),
  (211, (9, 0, 0, 0, 0, 0, [])),
  (212, (55, 0, 0, 65, 313, 693, [])),
  (215, (7, 0, 0, 2, 0, 0, [])),
  (216, (1, 86, 0, 0, 0, 0, [])),
  (218, (19, 0, 0, 0, 0, 0, [])),
  (219, (57, 0, 0, 0, 0, 0, [])),
  (220, (56, 0, 0, 13, 290, 670, [])),
  (223, (9, 0, 0, 0, 0, 0, [])),
  (224, (9, 0, 0, 0, 0, 0, [])),
  (225, (55, 0, 0, 65, 313, 693, [])),
  (228, (7, 0, 0, 2, 0, 0, [])),
  (229, (1, 87, 0, 0, 0, 0, [])),
  (231, (19, 0, 0, 0, 0, 0, [])),
  (232, (57, 0, 0, 0, 0, 0, [])),
  (233, (56, 0, 0, 16, 291, 671, [])),
  (236, (9, 0, 0, 0, 0, 0, [])),
  (237, (9, 0, 0, 0, 0, 0, [])),
  (238, (55, 0, 0, 65, 313, 693, [])),
  (241, (7, 0, 0, 2, 0, 0, [])),
  (242, (1, 88, 0, 0, 0, 0, [])),
  (244, (19, 0, 0, 0, 0, 0, [])),
  (245, (57, 0, 0, 0, 0, 0, [])),
  (246, (56, 0, 0, 89, 292, 672, [])),
  (249, (9, 0, 0, 0, 0, 0, [])),
  (250, (9, 0, 0, 0, 0, 0, [])),
  (251, (55, 0, 0, 65, 313, 693, [])),
  (254, (7, 0, 0, 2, 0, 0, [])),
  (255, (1, 89, 0, 0, 0, 0, [])),
  (257, (19, 0, 0, 0, 0, 0, [])),
  (258, (57, 0, 0, 0, 0, 0, [])),
  (259, (56, 0, 0, 19, 293, 673, [])),
  (262, (9, 0, 0, 0, 0, 0, [])),
  (263, (9, 0, 0, 0, 0, 0, [])),
  (264, (55, 0, 0, 65, 313, 693, [])),
  (267, (7, 0, 0, 2, 0, 0, [])),
  (268, (1, 90, 0, 0, 0, 0, [])),
  (270, (19, 0, 0, 0, 0, 0, [])),
  (271, (57, 0, 0, 0, 0, 0, [])),
  (272, (56, 0, 0, 78, 299, 679, [])),
  (275, (0, 1, 0, 0, 0, 0, [])),
  (276, (64, 0, 0, 0, 0, 0, []))]
def e_X10_restore : Ev := (t_X10_restore, [(81, (3, 1, 0, 0, s_X10_in))], 1, 0, false, 0, fun _ => 0)
def s_X10_restore : Sp := spc e_X10_restore 4
theorem m_X10_restore : monoE e_X10_restore := monoE_of (cons_all (p_X10_in) nil_all)
theorem p_X10_restore : mono s_X10_restore := spc_mono m_X10_restore _
theorem k_X10_restore (l : Launch) : Con l y_X10_restore prog_12_method_56_code 4 (Option.some Jvm.ClassFile.FieldType.int) { frames := 1, cells := 0, slots := 0, locals := 22 } 1 0 s_X10_restore := con_of l e_X10_restore y_X10_restore prog_12_method_56_code 4 (Option.some Jvm.ClassFile.FieldType.int) _ (by decide +kernel) (cons_all (clS (k_X10_in l) f_X10_in ⟨rfl, rfl, Nat.le_of_ble_eq_true rfl, Nat.le_of_ble_eq_true rfl⟩ (mg 755 (by decide +kernel))) nil_all) (Or.inl (by decide +kernel))
theorem f_X10_restore : calV y_X10_restore prog_12_method_56_code 4 (Option.some Jvm.ClassFile.FieldType.int) 2 9 := ⟨⟨mem_g (i := 966) (by decide +kernel) rfl, mg 34 (by decide +kernel)⟩, by decide +kernel, by decide +kernel, by decide, mg 964 (by decide +kernel), mg 965 (by decide +kernel), _, rfl, rfl⟩
def y_X10_told : MethodName := ⟨"ActsPaidModel", "told", "(I)I"⟩
def t_X10_told : List (Nat × Ao) := [
  (0, (7, 0, 0, 1, 0, 0, [])),
  (1, (1, 10, 0, 0, 0, 0, [])),
  (3, (1, 15, 0, 0, 0, 0, [])),
  (5, (63, 0, 0, 81, 0, 0, [])),
  (8, (41, 0, 0, 37, 0, 0, [])),
  (11, (9, 0, 0, 0, 0, 0, [])),
  (12, (7, 0, 0, 1, 0, 0, [])),
  (13, (1, 10, 0, 0, 0, 0, [])),
  (15, (20, 0, 0, 0, 0, 0, [])),
  (16, (62, 0, 0, 95, 0, 0, [])),
  (19, (41, 0, 0, 34, 0, 0, [])),
  (22, (9, 0, 0, 0, 0, 0, [])),
  (23, (55, 0, 0, 26, 295, 675, [])),
  (26, (7, 0, 0, 1, 0, 0, [])),
  (27, (1, 10, 0, 0, 0, 0, [])),
  (29, (20, 0, 0, 0, 0, 0, [])),
  (30, (57, 0, 0, 0, 0, 0, [])),
  (31, (40, 0, 0, 36, 0, 0, [])),
  (34, (1, (-2), 0, 0, 0, 0, [])),
  (36, (64, 0, 0, 0, 0, 0, [])),
  (37, (7, 0, 0, 1, 0, 0, [])),
  (38, (1, 20, 0, 0, 0, 0, [])),
  (40, (1, 25, 0, 0, 0, 0, [])),
  (42, (63, 0, 0, 81, 0, 0, [])),
  (45, (41, 0, 0, 74, 0, 0, [])),
  (48, (9, 0, 0, 0, 0, 0, [])),
  (49, (7, 0, 0, 1, 0, 0, [])),
  (50, (1, 20, 0, 0, 0, 0, [])),
  (52, (20, 0, 0, 0, 0, 0, [])),
  (53, (62, 0, 0, 95, 0, 0, [])),
  (56, (41, 0, 0, 71, 0, 0, [])),
  (59, (9, 0, 0, 0, 0, 0, [])),
  (60, (55, 0, 0, 32, 297, 677, [])),
  (63, (7, 0, 0, 1, 0, 0, [])),
  (64, (1, 20, 0, 0, 0, 0, [])),
  (66, (20, 0, 0, 0, 0, 0, [])),
  (67, (57, 0, 0, 0, 0, 0, [])),
  (68, (40, 0, 0, 73, 0, 0, [])),
  (71, (1, (-2), 0, 0, 0, 0, [])),
  (73, (64, 0, 0, 0, 0, 0, [])),
  (74, (7, 0, 0, 1, 0, 0, [])),
  (75, (68, 0, 0, 151, 0, 0, [(0, 116), (1, 121), (2, 126), (3, 131), (4, 136), (5, 141), (6, 146)])),
  (116, (9, 0, 0, 0, 0, 0, [])),
  (117, (55, 0, 0, 92, 301, 681, [])),
  (120, (64, 0, 0, 0, 0, 0, [])),
  (121, (9, 0, 0, 0, 0, 0, [])),
  (122, (55, 0, 0, 7, 288, 668, [])),
  (125, (64, 0, 0, 0, 0, 0, [])),
  (126, (9, 0, 0, 0, 0, 0, [])),
  (127, (55, 0, 0, 75, 289, 669, [])),
  (130, (64, 0, 0, 0, 0, 0, [])),
  (131, (9, 0, 0, 0, 0, 0, [])),
  (132, (55, 0, 0, 13, 290, 670, [])),
  (135, (64, 0, 0, 0, 0, 0, [])),
  (136, (9, 0, 0, 0, 0, 0, [])),
  (137, (55, 0, 0, 16, 291, 671, [])),
  (140, (64, 0, 0, 0, 0, 0, [])),
  (141, (9, 0, 0, 0, 0, 0, [])),
  (142, (55, 0, 0, 89, 292, 672, [])),
  (145, (64, 0, 0, 0, 0, 0, [])),
  (146, (9, 0, 0, 0, 0, 0, [])),
  (147, (55, 0, 0, 19, 293, 673, [])),
  (150, (64, 0, 0, 0, 0, 0, [])),
  (151, (7, 0, 0, 1, 0, 0, [])),
  (152, (1, 7, 0, 0, 0, 0, [])),
  (154, (48, 0, 0, 164, 0, 0, [])),
  (157, (9, 0, 0, 0, 0, 0, [])),
  (158, (55, 0, 0, 78, 299, 679, [])),
  (161, (40, 0, 0, 166, 0, 0, [])),
  (164, (1, (-2), 0, 0, 0, 0, [])),
  (166, (64, 0, 0, 0, 0, 0, []))]
def e_X10_told : Ev := (t_X10_told, [(81, (3, 1, 0, 0, s_X10_in)), (95, (2, 1, 0, 10, s_X10_isAct))], 1, 0, false, 0, fun _ => 0)
def s_X10_told : Sp := spc e_X10_told 2
theorem m_X10_told : monoE e_X10_told := monoE_of (cons_all (p_X10_in) (cons_all (p_X10_isAct) nil_all))
theorem p_X10_told : mono s_X10_told := spc_mono m_X10_told _
theorem k_X10_told (l : Launch) : Con l y_X10_told prog_12_method_57_code 2 (Option.some Jvm.ClassFile.FieldType.int) { frames := 2, cells := 0, slots := 0, locals := 43 } 1 0 s_X10_told := con_of l e_X10_told y_X10_told prog_12_method_57_code 2 (Option.some Jvm.ClassFile.FieldType.int) _ (by decide +kernel) (cons_all (clS (k_X10_in l) f_X10_in ⟨rfl, rfl, Nat.le_of_ble_eq_true rfl, Nat.le_of_ble_eq_true rfl⟩ (mg 755 (by decide +kernel))) (cons_all (clV (k_X10_isAct l) f_X10_isAct ⟨rfl, rfl, Nat.le_of_ble_eq_true rfl, Nat.le_of_ble_eq_true rfl⟩ (mg 782 (by decide +kernel))) nil_all)) (Or.inl (by decide +kernel))
theorem f_X10_told : calV y_X10_told prog_12_method_57_code 2 (Option.some Jvm.ClassFile.FieldType.int) 2 9 := ⟨⟨mem_g (i := 970) (by decide +kernel) rfl, mg 34 (by decide +kernel)⟩, by decide +kernel, by decide +kernel, by decide, mg 968 (by decide +kernel), mg 969 (by decide +kernel), _, rfl, rfl⟩
end
section
/-! ===== printed by program: what each stretch of code asks ===== -/
set_option maxRecDepth 100000 in
theorem g_X9_within {μ : Mm} {K : MV → Mm → Prop} {l0 : Int32} {l1 : Int32} {l2 : Int32} (H : (if l0 < l1 then (zb 0 ∧ K (mI 0) μ) else (if l2 < l0 then (zb 0 ∧ K (mI 0) μ) else (zb 1 ∧ K (mI 1) μ)))) : s_X9_within [mI l0, mI l1, mI l2] μ K := seg (pc := 0) (L := [mI l0, mI l1, mI l2]) (S := []) m_X9_within [] 13 H
set_option maxRecDepth 100000 in
theorem g_X8_comes {μ : Mm} {K : MV → Mm → Prop} {c0 : Nat} {l1 : Int32} (H : (s_X9_within [mI l1, mI 0, mI 7] μ (fun v1 μ1 => (if (vI v1) = 0 then (zb 0 ∧ K (mI 0) μ1) else (if (((μ1 c0 5) >>> (l1 &&& 31)) &&& 1) = 0 then (zb 0 ∧ K (mI 0) μ1) else (zb 1 ∧ K (mI 1) μ1)))))) : s_X8_comes [mO 7 c0, mI l1] μ K := seg (pc := 0) (L := [mO 7 c0, mI l1]) (S := []) m_X8_comes [] 19 H
set_option maxRecDepth 100000 in
theorem g_X5_at {μ : Mm} {K : MV → Mm → Prop} {n0 : Nat} {c0 : Nat} {l1 : Int32} (H : (if l1 < 0 then K (mI 0) μ else (if (nI n0) ≤ l1 then K (mI 0) μ else (vi l1 n0 ∧ K (mI (μ c0 l1.toNatClampNeg)) μ)))) : s_X5_at [mA n0 c0, mI l1] μ K := seg (pc := 0) (L := [mA n0 c0, mI l1]) (S := []) m_X5_at [] 17 H
set_option maxRecDepth 100000 in
theorem g_X8_worthPlayed {μ : Mm} {K : MV → Mm → Prop} {c0 : Nat} {l1 : Int32} {l2 : Int32} (H : (s_X5_at [mA 6 (c0 + 1), mI l2] μ (fun v1 μ1 => (s_X5_at [mA 48 (c0 + 2), mI ((l1 * 6) + (vI v1))] μ1 (fun v2 μ2 => K (mI (vI v2)) μ2))))) : s_X8_worthPlayed [mO 7 c0, mI l1, mI l2] μ K := seg (pc := 0) (L := [mO 7 c0, mI l1, mI l2]) (S := []) m_X8_worthPlayed [] 15 H
set_option maxRecDepth 100000 in
theorem g_X8_behind {μ : Mm} {K : MV → Mm → Prop} {c0 : Nat} {l1 : Int32} (H : Tot e_X8_behind K 10 [mO 7 c0, mI l1, mI 0, mI 0, mI 0, mI 0, mU] [] μ) : s_X8_behind [mO 7 c0, mI l1] μ K := seg (pc := 0) (L := [mO 7 c0, mI l1, mU, mU, mU, mU, mU]) (S := []) m_X8_behind [10] 58 H
set_option maxRecDepth 100000 in
theorem g_X8_behind_10 {μ : Mm} {K : MV → Mm → Prop} {c0 : Nat} {l1 : Int32} {l2 : Int32} {l3 : Int32} {l4 : Int32} {l5 : Int32} {z6 : MV} (H : (if (μ c0 0) ≤ l5 then K (mI l4) μ else (s_X8_worthPlayed [mO 7 c0, mI l1, mI l5] μ (fun v1 μ1 => (if (μ1 c0 3) = 0 then (if (1 : Int32) = 0 then Tot e_X8_behind K 10 [mO 7 c0, mI l1, mI (l2 + (((vI v1) - (μ1 c0 1)) - (l5 * (μ1 c0 2)))), mI l3, mI l4, mI (l5 + 1), mI 1] [] μ1 else (if (l2 + (((vI v1) - (μ1 c0 1)) - (l5 * (μ1 c0 2)))) ≤ l3 then Tot e_X8_behind K 10 [mO 7 c0, mI l1, mI (l2 + (((vI v1) - (μ1 c0 1)) - (l5 * (μ1 c0 2)))), mI l3, mI l4, mI (l5 + 1), mI 1] [] μ1 else Tot e_X8_behind K 10 [mO 7 c0, mI l1, mI (l2 + (((vI v1) - (μ1 c0 1)) - (l5 * (μ1 c0 2)))), mI (l2 + (((vI v1) - (μ1 c0 1)) - (l5 * (μ1 c0 2)))), mI (l5 + 1), mI (l5 + 1), mI 1] [] μ1)) else (if l5 = ((μ1 c0 0) - 1) then (if (1 : Int32) = 0 then Tot e_X8_behind K 10 [mO 7 c0, mI l1, mI (l2 + (((vI v1) - (μ1 c0 1)) - (l5 * (μ1 c0 2)))), mI l3, mI l4, mI (l5 + 1), mI 1] [] μ1 else (if (l2 + (((vI v1) - (μ1 c0 1)) - (l5 * (μ1 c0 2)))) ≤ l3 then Tot e_X8_behind K 10 [mO 7 c0, mI l1, mI (l2 + (((vI v1) - (μ1 c0 1)) - (l5 * (μ1 c0 2)))), mI l3, mI l4, mI (l5 + 1), mI 1] [] μ1 else Tot e_X8_behind K 10 [mO 7 c0, mI l1, mI (l2 + (((vI v1) - (μ1 c0 1)) - (l5 * (μ1 c0 2)))), mI (l2 + (((vI v1) - (μ1 c0 1)) - (l5 * (μ1 c0 2)))), mI (l5 + 1), mI (l5 + 1), mI 1] [] μ1)) else (if (0 : Int32) = 0 then Tot e_X8_behind K 10 [mO 7 c0, mI l1, mI (l2 + (((vI v1) - (μ1 c0 1)) - (l5 * (μ1 c0 2)))), mI l3, mI l4, mI (l5 + 1), mI 0] [] μ1 else (if (l2 + (((vI v1) - (μ1 c0 1)) - (l5 * (μ1 c0 2)))) ≤ l3 then Tot e_X8_behind K 10 [mO 7 c0, mI l1, mI (l2 + (((vI v1) - (μ1 c0 1)) - (l5 * (μ1 c0 2)))), mI l3, mI l4, mI (l5 + 1), mI 0] [] μ1 else Tot e_X8_behind K 10 [mO 7 c0, mI l1, mI (l2 + (((vI v1) - (μ1 c0 1)) - (l5 * (μ1 c0 2)))), mI (l2 + (((vI v1) - (μ1 c0 1)) - (l5 * (μ1 c0 2)))), mI (l5 + 1), mI (l5 + 1), mI 0] [] μ1)))))))) : Tot e_X8_behind K 10 [mO 7 c0, mI l1, mI l2, mI l3, mI l4, mI l5, z6] [] μ := seg (pc := 10) (L := [mO 7 c0, mI l1, mI l2, mI l3, mI l4, mI l5, z6]) (S := []) m_X8_behind [10] 58 H
set_option maxRecDepth 100000 in
theorem g_X8_price {μ : Mm} {K : MV → Mm → Prop} {c0 : Nat} {l1 : Int32} {l2 : Int32} (H : (¬ (2 : Int32) = 0 ∧ K (mI ((l2 * l1) + (((l2 * (l2 - 1)) / 2) * (μ c0 2)))) μ)) : s_X8_price [mO 7 c0, mI l1, mI l2] μ K := seg (pc := 0) (L := [mO 7 c0, mI l1, mI l2]) (S := []) m_X8_price [] 18 H
set_option maxRecDepth 100000 in
theorem g_X8_pays {μ : Mm} {K : MV → Mm → Prop} {c0 : Nat} {l1 : Int32} (H : (s_X8_comes [mO 7 c0, mI l1] μ (fun v1 μ1 => (if (vI v1) = 0 then K (mI 0) μ1 else (s_X8_behind [mO 7 c0, mI l1] μ1 (fun v2 μ2 => (s_X8_price [mO 7 c0, mI (μ1 c0 1), mI (vI v2)] μ2 (fun v3 μ3 => K (mI (vI v3)) μ3)))))))) : s_X8_pays [mO 7 c0, mI l1] μ K := seg (pc := 0) (L := [mO 7 c0, mI l1]) (S := []) m_X8_pays [] 17 H
set_option maxRecDepth 100000 in
theorem g_X5_put {μ : Mm} {K : MV → Mm → Prop} {n0 : Nat} {c0 : Nat} {l1 : Int32} {l2 : Int32} (H : (if l1 < 0 then K mU μ else (if (nI n0) ≤ l1 then K mU μ else (vi l1 n0 ∧ K mU (mS μ c0 l1.toNatClampNeg l2))))) : s_X5_put [mA n0 c0, mI l1, mI l2] μ K := seg (pc := 0) (L := [mA n0 c0, mI l1, mI l2]) (S := []) m_X5_put [] 16 H
set_option maxRecDepth 100000 in
theorem g_X0_readPayments {μ : Mm} {K : MV → Mm → Prop} {c1 : Nat} (H : Tot e_X0_readPayments K 2 [mO 0 53, mO 7 c1, mI 0] [] μ) : s_X0_readPayments [mO 0 53, mO 7 c1] μ K := seg (pc := 0) (L := [mO 0 53, mO 7 c1, mU]) (S := []) m_X0_readPayments [2] 18 H
set_option maxRecDepth 100000 in
theorem g_X0_readPayments_2 {μ : Mm} {K : MV → Mm → Prop} {c1 : Nat} {l2 : Int32} (H : (if 8 ≤ l2 then K mU μ else (s_X8_pays [mO 7 c1, mI l2] μ (fun v1 μ1 => (s_X5_put [mA 8 54, mI l2, mI (vI v1)] μ1 (fun v2 μ2 => Tot e_X0_readPayments K 2 [mO 0 53, mO 7 c1, mI (l2 + 1)] [] μ2)))))) : Tot e_X0_readPayments K 2 [mO 0 53, mO 7 c1, mI l2] [] μ := seg (pc := 2) (L := [mO 0 53, mO 7 c1, mI l2]) (S := []) m_X0_readPayments [2] 18 H
set_option maxRecDepth 100000 in
theorem g_X0_paidBy {μ : Mm} {K : MV → Mm → Prop} {l1 : Int32} (H : Tot e_X0_paidBy K 4 [mO 0 53, mI l1, mI 0, mI 0] [] μ) : s_X0_paidBy [mO 0 53, mI l1] μ K := seg (pc := 0) (L := [mO 0 53, mI l1, mU, mU]) (S := []) m_X0_paidBy [4] 27 H
set_option maxRecDepth 100000 in
theorem g_X0_paidBy_4 {μ : Mm} {K : MV → Mm → Prop} {l1 : Int32} {l2 : Int32} {l3 : Int32} (H : (if 8 ≤ l3 then K (mI l2) μ else (if ((l1 >>> (l3 &&& 31)) &&& 1) = 0 then Tot e_X0_paidBy K 4 [mO 0 53, mI l1, mI l2, mI (l3 + 1)] [] μ else (s_X5_at [mA 8 54, mI l3] μ (fun v1 μ1 => Tot e_X0_paidBy K 4 [mO 0 53, mI l1, mI (l2 + (vI v1)), mI (l3 + 1)] [] μ1))))) : Tot e_X0_paidBy K 4 [mO 0 53, mI l1, mI l2, mI l3] [] μ := seg (pc := 4) (L := [mO 0 53, mI l1, mI l2, mI l3]) (S := []) m_X0_paidBy [4] 27 H
set_option maxRecDepth 100000 in
theorem g_X0_waysOf {μ : Mm} {K : MV → Mm → Prop} {c0 : Nat} {l1 : Int32} {l2 : Int32} (H : Tot e_X0_waysOf K 5 [mO 7 c0, mI l1, mI l2, mJ 1, mU, mI 0] [] μ) : s_X0_waysOf [mO 7 c0, mI l1, mI l2] μ K := seg (pc := 0) (L := [mO 7 c0, mI l1, mI l2, mU, mU, mU]) (S := []) m_X0_waysOf [5] 34 H
set_option maxRecDepth 100000 in
theorem g_X0_waysOf_5 {μ : Mm} {K : MV → Mm → Prop} {c0 : Nat} {l1 : Int32} {l2 : Int32} {l3 : Int64} {l5 : Int32} (H : (if 8 ≤ l5 then K (mJ l3) μ else (s_X8_comes [mO 7 c0, mI l5] μ (fun v1 μ1 => (if (vI v1) = 0 then Tot e_X0_waysOf K 5 [mO 7 c0, mI l1, mI l2, mJ l3, mU, mI (l5 + 1)] [] μ1 else (if ((l1 >>> (l5 &&& 31)) &&& 1) = 0 then Tot e_X0_waysOf K 5 [mO 7 c0, mI l1, mI l2, mJ (l3 * (Int32.toInt64 (10 - l2))), mU, mI (l5 + 1)] [] μ1 else Tot e_X0_waysOf K 5 [mO 7 c0, mI l1, mI l2, mJ (l3 * (Int32.toInt64 l2)), mU, mI (l5 + 1)] [] μ1)))))) : Tot e_X0_waysOf K 5 [mO 7 c0, mI l1, mI l2, mJ l3, mU, mI l5] [] μ := seg (pc := 5) (L := [mO 7 c0, mI l1, mI l2, mJ l3, mU, mI l5]) (S := []) m_X0_waysOf [5] 34 H
set_option maxRecDepth 100000 in
theorem g_J6_bitCount {μ : Mm} {K : MV → Mm → Prop} {l0 : Int32} (H : K (mI ((((((((l0 - (((l0.toUInt32 >>> ((1 : Int32).toUInt32 &&& Int32.toUInt32 31)).toInt32) &&& 1431655765)) &&& 858993459) + ((((l0 - (((l0.toUInt32 >>> ((1 : Int32).toUInt32 &&& Int32.toUInt32 31)).toInt32) &&& 1431655765)).toUInt32 >>> ((2 : Int32).toUInt32 &&& Int32.toUInt32 31)).toInt32) &&& 858993459)) + (((((l0 - (((l0.toUInt32 >>> ((1 : Int32).toUInt32 &&& Int32.toUInt32 31)).toInt32) &&& 1431655765)) &&& 858993459) + ((((l0 - (((l0.toUInt32 >>> ((1 : Int32).toUInt32 &&& Int32.toUInt32 31)).toInt32) &&& 1431655765)).toUInt32 >>> ((2 : Int32).toUInt32 &&& Int32.toUInt32 31)).toInt32) &&& 858993459)).toUInt32 >>> ((4 : Int32).toUInt32 &&& Int32.toUInt32 31)).toInt32)) &&& 252645135) + (((((((l0 - (((l0.toUInt32 >>> ((1 : Int32).toUInt32 &&& Int32.toUInt32 31)).toInt32) &&& 1431655765)) &&& 858993459) + ((((l0 - (((l0.toUInt32 >>> ((1 : Int32).toUInt32 &&& Int32.toUInt32 31)).toInt32) &&& 1431655765)).toUInt32 >>> ((2 : Int32).toUInt32 &&& Int32.toUInt32 31)).toInt32) &&& 858993459)) + (((((l0 - (((l0.toUInt32 >>> ((1 : Int32).toUInt32 &&& Int32.toUInt32 31)).toInt32) &&& 1431655765)) &&& 858993459) + ((((l0 - (((l0.toUInt32 >>> ((1 : Int32).toUInt32 &&& Int32.toUInt32 31)).toInt32) &&& 1431655765)).toUInt32 >>> ((2 : Int32).toUInt32 &&& Int32.toUInt32 31)).toInt32) &&& 858993459)).toUInt32 >>> ((4 : Int32).toUInt32 &&& Int32.toUInt32 31)).toInt32)) &&& 252645135).toUInt32 >>> ((8 : Int32).toUInt32 &&& Int32.toUInt32 31)).toInt32)) + ((((((((l0 - (((l0.toUInt32 >>> ((1 : Int32).toUInt32 &&& Int32.toUInt32 31)).toInt32) &&& 1431655765)) &&& 858993459) + ((((l0 - (((l0.toUInt32 >>> ((1 : Int32).toUInt32 &&& Int32.toUInt32 31)).toInt32) &&& 1431655765)).toUInt32 >>> ((2 : Int32).toUInt32 &&& Int32.toUInt32 31)).toInt32) &&& 858993459)) + (((((l0 - (((l0.toUInt32 >>> ((1 : Int32).toUInt32 &&& Int32.toUInt32 31)).toInt32) &&& 1431655765)) &&& 858993459) + ((((l0 - (((l0.toUInt32 >>> ((1 : Int32).toUInt32 &&& Int32.toUInt32 31)).toInt32) &&& 1431655765)).toUInt32 >>> ((2 : Int32).toUInt32 &&& Int32.toUInt32 31)).toInt32) &&& 858993459)).toUInt32 >>> ((4 : Int32).toUInt32 &&& Int32.toUInt32 31)).toInt32)) &&& 252645135) + (((((((l0 - (((l0.toUInt32 >>> ((1 : Int32).toUInt32 &&& Int32.toUInt32 31)).toInt32) &&& 1431655765)) &&& 858993459) + ((((l0 - (((l0.toUInt32 >>> ((1 : Int32).toUInt32 &&& Int32.toUInt32 31)).toInt32) &&& 1431655765)).toUInt32 >>> ((2 : Int32).toUInt32 &&& Int32.toUInt32 31)).toInt32) &&& 858993459)) + (((((l0 - (((l0.toUInt32 >>> ((1 : Int32).toUInt32 &&& Int32.toUInt32 31)).toInt32) &&& 1431655765)) &&& 858993459) + ((((l0 - (((l0.toUInt32 >>> ((1 : Int32).toUInt32 &&& Int32.toUInt32 31)).toInt32) &&& 1431655765)).toUInt32 >>> ((2 : Int32).toUInt32 &&& Int32.toUInt32 31)).toInt32) &&& 858993459)).toUInt32 >>> ((4 : Int32).toUInt32 &&& Int32.toUInt32 31)).toInt32)) &&& 252645135).toUInt32 >>> ((8 : Int32).toUInt32 &&& Int32.toUInt32 31)).toInt32)).toUInt32 >>> ((16 : Int32).toUInt32 &&& Int32.toUInt32 31)).toInt32)) &&& 63)) μ) : s_J6_bitCount [mI l0] μ K := seg (pc := 0) (L := [mI l0]) (S := []) m_J6_bitCount [] 45 H
set_option maxRecDepth 100000 in
theorem g_X0_common {μ : Mm} {K : MV → Mm → Prop} {l0 : Int64} {l2 : Int64} (H : Tot e_X0_common K 9 [mJ l0, mU, mJ l2, mU, mJ l0, mU, mJ l2, mU, mI 0, mU, mU] [] μ) : s_X0_common [mJ l0, mJ l2] μ K := seg (pc := 0) (L := [mJ l0, mU, mJ l2, mU, mU, mU, mU, mU, mU, mU, mU]) (S := []) m_X0_common [9] 28 H
set_option maxRecDepth 100000 in
theorem g_X0_common_9 {μ : Mm} {K : MV → Mm → Prop} {l0 : Int64} {l2 : Int64} {l4 : Int64} {l6 : Int64} {l8 : Int32} {z9 : MV} (H : (if 1000 ≤ l8 then K (mJ l4) μ else (if (lg_cmp l6 0) = 0 then K (mJ l4) μ else (¬ l6 = 0 ∧ Tot e_X0_common K 9 [mJ l0, mU, mJ l2, mU, mJ l6, mU, mJ (l4 - l4 / l6 * l6), mU, mI (l8 + 1), mJ (l4 - l4 / l6 * l6), mU] [] μ)))) : Tot e_X0_common K 9 [mJ l0, mU, mJ l2, mU, mJ l4, mU, mJ l6, mU, mI l8, z9, mU] [] μ := seg (pc := 9) (L := [mJ l0, mU, mJ l2, mU, mJ l4, mU, mJ l6, mU, mI l8, z9, mU]) (S := []) m_X0_common [9] 28 H
set_option maxRecDepth 100000 in
theorem g_X0_comesIn {μ : Mm} {K : MV → Mm → Prop} {c1 : Nat} {l2 : Int32} {l3 : Int32} {l4 : Int32} (H : (s_X0_readPayments [mO 0 53, mO 7 c1] μ (fun v1 μ1 => Tot e_X0_comesIn K 11 [mO 0 53, mO 7 c1, mI l2, mI l3, mI l4, mJ 0, mU, mI 0, mU, mU, mU, mU, mU] [] μ1))) : s_X0_comesIn [mO 0 53, mO 7 c1, mI l2, mI l3, mI l4] μ K := seg (pc := 0) (L := [mO 0 53, mO 7 c1, mI l2, mI l3, mI l4, mU, mU, mU, mU, mU, mU, mU, mU]) (S := []) m_X0_comesIn [11, 66] 70 H
set_option maxRecDepth 100000 in
theorem g_X0_comesIn_11 {μ : Mm} {K : MV → Mm → Prop} {c1 : Nat} {l2 : Int32} {l3 : Int32} {l4 : Int32} {l5 : Int64} {l7 : Int32} (H : (if (μ c1 5) < l7 then Tot e_X0_comesIn K 66 [mO 0 53, mO 7 c1, mI l2, mI l3, mI l4, mJ l5, mU, mJ 1, mU, mI 0, mU, mU, mU] [] μ else (if (l7 &&& ((μ c1 5) ^^^ ((-1)))) = 0 then (s_X0_paidBy [mO 0 53, mI l7] μ (fun v1 μ1 => (if (vI v1) < l2 then Tot e_X0_comesIn K 11 [mO 0 53, mO 7 c1, mI l2, mI l3, mI l4, mJ l5, mU, mI (l7 + 1), mU, mU, mU, mU, mU] [] μ1 else (s_X0_waysOf [mO 7 c1, mI l7, mI l3] μ1 (fun v2 μ2 => Tot e_X0_comesIn K 11 [mO 0 53, mO 7 c1, mI l2, mI l3, mI l4, mJ (l5 + (vJ v2)), mU, mI (l7 + 1), mU, mU, mU, mU, mU] [] μ2))))) else Tot e_X0_comesIn K 11 [mO 0 53, mO 7 c1, mI l2, mI l3, mI l4, mJ l5, mU, mI (l7 + 1), mU, mU, mU, mU, mU] [] μ))) : Tot e_X0_comesIn K 11 [mO 0 53, mO 7 c1, mI l2, mI l3, mI l4, mJ l5, mU, mI l7, mU, mU, mU, mU, mU] [] μ := seg (pc := 11) (L := [mO 0 53, mO 7 c1, mI l2, mI l3, mI l4, mJ l5, mU, mI l7, mU, mU, mU, mU, mU]) (S := []) m_X0_comesIn [11, 66] 70 H
set_option maxRecDepth 100000 in
theorem g_X0_comesIn_66 {μ : Mm} {K : MV → Mm → Prop} {c1 : Nat} {l2 : Int32} {l3 : Int32} {l4 : Int32} {l5 : Int64} {l7 : Int64} {l9 : Int32} (H : (s_J6_bitCount [mI (μ c1 5)] μ (fun v1 μ1 => (if (vI v1) ≤ l9 then (s_X0_common [mJ l5, mJ l7] μ1 (fun v2 μ2 => (if l4 = 0 then (if (lg_cmp (vJ v2) 0) ≤ 0 then K (mJ l5) μ2 else (¬ (vJ v2) = 0 ∧ K (mJ (l5 / (vJ v2))) μ2)) else (if (lg_cmp (vJ v2) 0) ≤ 0 then K (mJ l7) μ2 else (¬ (vJ v2) = 0 ∧ K (mJ (l7 / (vJ v2))) μ2))))) else Tot e_X0_comesIn K 66 [mO 0 53, mO 7 c1, mI l2, mI l3, mI l4, mJ l5, mU, mJ (l7 * 10), mU, mI (l9 + 1), mU, mU, mU] [] μ1)))) : Tot e_X0_comesIn K 66 [mO 0 53, mO 7 c1, mI l2, mI l3, mI l4, mJ l5, mU, mJ l7, mU, mI l9, mU, mU, mU] [] μ := seg (pc := 66) (L := [mO 0 53, mO 7 c1, mI l2, mI l3, mI l4, mJ l5, mU, mJ l7, mU, mI l9, mU, mU, mU]) (S := []) m_X0_comesIn [11, 66] 70 H
set_option maxRecDepth 100000 in
theorem g_X0_evenings {μ : Mm} {K : MV → Mm → Prop} {c1 : Nat} {l2 : Int32} {l3 : Int32} {l4 : Int32} (H : (s_X0_readPayments [mO 0 53, mO 7 c1] μ (fun v1 μ1 => Tot e_X0_evenings K 17 [mO 0 53, mO 7 c1, mI l2, mI l3, mI l4, mI l2, mI 0, mI 0, mI 0, mU] [] μ1))) : s_X0_evenings [mO 0 53, mO 7 c1, mI l2, mI l3, mI l4] μ K := seg (pc := 0) (L := [mO 0 53, mO 7 c1, mI l2, mI l3, mI l4, mU, mU, mU, mU, mU]) (S := []) m_X0_evenings [17] 47 H
set_option maxRecDepth 100000 in
theorem g_X0_evenings_17 {μ : Mm} {K : MV → Mm → Prop} {c1 : Nat} {l2 : Int32} {l3 : Int32} {l4 : Int32} {l5 : Int32} {l6 : Int32} {l7 : Int32} {l8 : Int32} {z9 : MV} (H : (if l3 ≤ l8 then (if l4 = 0 then K (mI l6) μ else K (mI l7) μ) else (¬ (65537 : Int32) = 0 ∧ (¬ (256 : Int32) = 0 ∧ (s_X0_paidBy [mO 0 53, mI ((((75 * l5) + 74) - ((75 * l5) + 74) / 65537 * 65537) - (((75 * l5) + 74) - ((75 * l5) + 74) / 65537 * 65537) / 256 * 256)] μ (fun v1 μ1 => Tot e_X0_evenings K 17 [mO 0 53, mO 7 c1, mI l2, mI l3, mI l4, mI (((75 * l5) + 74) - ((75 * l5) + 74) / 65537 * 65537), mI (l6 + (vI v1)), mI (if l7 < (vI v1) then (vI v1) else l7), mI (l8 + 1), mI (vI v1)] [] μ1)))))) : Tot e_X0_evenings K 17 [mO 0 53, mO 7 c1, mI l2, mI l3, mI l4, mI l5, mI l6, mI l7, mI l8, z9] [] μ := seg (pc := 17) (L := [mO 0 53, mO 7 c1, mI l2, mI l3, mI l4, mI l5, mI l6, mI l7, mI l8, z9]) (S := []) m_X0_evenings [17] 47 H
set_option maxRecDepth 100000 in
theorem g_X1_send {μ : Mm} {K : MV → Mm → Prop} {c1 : Nat} {l2 : Int32} (H : Tot e_X1_send K 18 [mO 1 50, mO 7 c1, mI l2, mI 0, mI 0, mI 0, mU, mU] [] (mS (mS μ 50 0 0) 50 1 0)) : s_X1_send [mO 1 50, mO 7 c1, mI l2] μ K := seg (pc := 0) (L := [mO 1 50, mO 7 c1, mI l2, mU, mU, mU, mU, mU]) (S := []) m_X1_send [18, 35] 75 H
set_option maxRecDepth 100000 in
theorem g_X1_send_18 {μ : Mm} {K : MV → Mm → Prop} {c1 : Nat} {l2 : Int32} {l3 : Int32} {l4 : Int32} {l5 : Int32} {z6 : MV} {z7 : MV} (H : (if (μ c1 0) < l5 then K mU μ else Tot e_X1_send K 35 [mO 1 50, mO 7 c1, mI l2, mI l3, mI l4, mI l5, mI l4, mI l5] [] μ)) : Tot e_X1_send K 18 [mO 1 50, mO 7 c1, mI l2, mI l3, mI l4, mI l5, z6, z7] [] μ := seg (pc := 18) (L := [mO 1 50, mO 7 c1, mI l2, mI l3, mI l4, mI l5, z6, z7]) (S := []) m_X1_send [18, 35] 75 H
set_option maxRecDepth 100000 in
theorem g_X1_send_35 {μ : Mm} {K : MV → Mm → Prop} {c1 : Nat} {l2 : Int32} {l3 : Int32} {l4 : Int32} {l5 : Int32} {l6 : Int32} {l7 : Int32} (H : (if (μ c1 0) < l7 then (s_X8_worthPlayed [mO 7 c1, mI l2, mI l5] μ (fun v1 μ1 => Tot e_X1_send K 18 [mO 1 50, mO 7 c1, mI l2, mI l3, mI (l4 + (((vI v1) - (μ1 c1 1)) - (l5 * (μ1 c1 2)))), mI (l5 + 1), mI l6, mI l7] [] μ1)) else (if l6 ≤ l3 then (s_X5_at [mA 6 (c1 + 3), mI l7] μ (fun v1 μ1 => Tot e_X1_send K 35 [mO 1 50, mO 7 c1, mI l2, mI l3, mI l4, mI l5, mI (l6 + (((vI v1) - (μ1 c1 4)) - ((l7 - l5) * (μ1 c1 2)))), mI (l7 + 1)] [] μ1)) else (s_X5_at [mA 6 (c1 + 3), mI l7] (mS (mS μ 50 0 l5) 50 1 l7) (fun v1 μ1 => Tot e_X1_send K 35 [mO 1 50, mO 7 c1, mI l2, mI l6, mI l4, mI l5, mI (l6 + (((vI v1) - (μ1 c1 4)) - ((l7 - l5) * (μ1 c1 2)))), mI (l7 + 1)] [] μ1))))) : Tot e_X1_send K 35 [mO 1 50, mO 7 c1, mI l2, mI l3, mI l4, mI l5, mI l6, mI l7] [] μ := seg (pc := 35) (L := [mO 1 50, mO 7 c1, mI l2, mI l3, mI l4, mI l5, mI l6, mI l7]) (S := []) m_X1_send [18, 35] 75 H
set_option maxRecDepth 100000 in
theorem g_X1_sendAll {μ : Mm} {K : MV → Mm → Prop} {c1 : Nat} (H : Tot e_X1_sendAll K 12 [mO 1 50, mO 7 c1, mI 0] [] (mS (mS μ 50 2 0) 50 3 0)) : s_X1_sendAll [mO 1 50, mO 7 c1] μ K := seg (pc := 0) (L := [mO 1 50, mO 7 c1, mU]) (S := []) m_X1_sendAll [12] 50 H
set_option maxRecDepth 100000 in
theorem g_X1_sendAll_12 {μ : Mm} {K : MV → Mm → Prop} {c1 : Nat} {l2 : Int32} (H : (if 8 ≤ l2 then K mU μ else (s_X8_comes [mO 7 c1, mI l2] μ (fun v1 μ1 => (if (vI v1) = 0 then Tot e_X1_sendAll K 12 [mO 1 50, mO 7 c1, mI (l2 + 1)] [] μ1 else (s_X1_send [mO 1 50, mO 7 c1, mI l2] μ1 (fun v2 μ2 => (s_X8_price [mO 7 c1, mI (μ2 c1 1), mI (μ2 50 0)] μ2 (fun v3 μ3 => (s_X8_price [mO 7 c1, mI ((mS μ3 50 2 ((μ2 50 2) + (vI v3))) c1 4), mI (((mS μ3 50 2 ((μ2 50 2) + (vI v3))) 50 1) - ((mS μ3 50 2 ((μ2 50 2) + (vI v3))) 50 0))] (mS μ3 50 2 ((μ2 50 2) + (vI v3))) (fun v4 μ4 => Tot e_X1_sendAll K 12 [mO 1 50, mO 7 c1, mI (l2 + 1)] [] (mS μ4 50 3 (((mS μ3 50 2 ((μ2 50 2) + (vI v3))) 50 3) + (vI v4)))))))))))))) : Tot e_X1_sendAll K 12 [mO 1 50, mO 7 c1, mI l2] [] μ := seg (pc := 12) (L := [mO 1 50, mO 7 c1, mI l2]) (S := []) m_X1_sendAll [12] 50 H
set_option maxRecDepth 100000 in
theorem g_X1_bothRest {μ : Mm} {K : MV → Mm → Prop} {l1 : Int32} (H : (¬ (10 : Int32) = 0 ∧ (¬ (10 : Int32) = 0 ∧ Tot e_X1_bothRest K 13 [mO 1 50, mI l1, mI (l1 / 10), mI (l1 - l1 / 10 * 10), mI 0, mU, mU] [] μ))) : s_X1_bothRest [mO 1 50, mI l1] μ K := seg (pc := 0) (L := [mO 1 50, mI l1, mU, mU, mU, mU, mU]) (S := []) m_X1_bothRest [13] 60 H
set_option maxRecDepth 100000 in
theorem g_X1_bothRest_13 {μ : Mm} {K : MV → Mm → Prop} {l1 : Int32} {l2 : Int32} {l3 : Int32} {l4 : Int32} {z5 : MV} {z6 : MV} (H : (if 10 ≤ l4 then (zb 1 ∧ K (mI 1) μ) else (s_X5_at [mA 100 51, mI ((l4 * 10) + l3)] μ (fun v1 μ1 => (s_X5_at [mA 100 51, mI l1] μ1 (fun v2 μ2 => (if (vI v1) ≤ (vI v2) then (s_X5_at [mA 100 52, mI ((l2 * 10) + l4)] μ2 (fun v3 μ3 => (s_X5_at [mA 100 52, mI l1] μ3 (fun v4 μ4 => (if (vI v3) ≤ (vI v4) then (if (0 : Int32) = 0 then (if (0 : Int32) = 0 then Tot e_X1_bothRest K 13 [mO 1 50, mI l1, mI l2, mI l3, mI (l4 + 1), mI 0, mI 0] [] μ4 else (zb 0 ∧ K (mI 0) μ4)) else (zb 0 ∧ K (mI 0) μ4)) else (if (0 : Int32) = 0 then (if (1 : Int32) = 0 then Tot e_X1_bothRest K 13 [mO 1 50, mI l1, mI l2, mI l3, mI (l4 + 1), mI 0, mI 1] [] μ4 else (zb 0 ∧ K (mI 0) μ4)) else (zb 0 ∧ K (mI 0) μ4))))))) else (s_X5_at [mA 100 52, mI ((l2 * 10) + l4)] μ2 (fun v3 μ3 => (s_X5_at [mA 100 52, mI l1] μ3 (fun v4 μ4 => (if (vI v3) ≤ (vI v4) then (if (1 : Int32) = 0 then (if (0 : Int32) = 0 then Tot e_X1_bothRest K 13 [mO 1 50, mI l1, mI l2, mI l3, mI (l4 + 1), mI 1, mI 0] [] μ4 else (zb 0 ∧ K (mI 0) μ4)) else (zb 0 ∧ K (mI 0) μ4)) else (if (1 : Int32) = 0 then (if (1 : Int32) = 0 then Tot e_X1_bothRest K 13 [mO 1 50, mI l1, mI l2, mI l3, mI (l4 + 1), mI 1, mI 1] [] μ4 else (zb 0 ∧ K (mI 0) μ4)) else (zb 0 ∧ K (mI 0) μ4)))))))))))))) : Tot e_X1_bothRest K 13 [mO 1 50, mI l1, mI l2, mI l3, mI l4, z5, z6] [] μ := seg (pc := 13) (L := [mO 1 50, mI l1, mI l2, mI l3, mI l4, z5, z6]) (S := []) m_X1_bothRest [13] 60 H
set_option maxRecDepth 100000 in
theorem g_X1_restingBases {μ : Mm} {K : MV → Mm → Prop} {c1 : Nat} {l2 : Int32} (H : Tot e_X1_restingBases K 2 [mO 1 50, mO 7 c1, mI l2, mI 0, mU] [] μ) : s_X1_restingBases [mO 1 50, mO 7 c1, mI l2] μ K := seg (pc := 0) (L := [mO 1 50, mO 7 c1, mI l2, mU, mU]) (S := []) m_X1_restingBases [2, 64] 61 H
set_option maxRecDepth 100000 in
theorem g_X1_restingBases_2 {μ : Mm} {K : MV → Mm → Prop} {c1 : Nat} {l2 : Int32} {l3 : Int32} (H : (if 100 ≤ l3 then Tot e_X1_restingBases K 64 [mO 1 50, mO 7 c1, mI l2, mI 0, mI 0] [] μ else (¬ (10 : Int32) = 0 ∧ (¬ (10 : Int32) = 0 ∧ (s_X1_sendAll [mO 1 50, mO 7 c1] (mS (mS μ c1 1 (l3 / 10)) c1 4 (l3 - l3 / 10 * 10)) (fun v1 μ1 => (s_X5_put [mA 100 51, mI l3, mI (μ1 50 2)] μ1 (fun v2 μ2 => (s_X5_put [mA 100 52, mI l3, mI (μ2 50 3)] μ2 (fun v3 μ3 => Tot e_X1_restingBases K 2 [mO 1 50, mO 7 c1, mI l2, mI (l3 + 1), mU] [] μ3)))))))))) : Tot e_X1_restingBases K 2 [mO 1 50, mO 7 c1, mI l2, mI l3, mU] [] μ := seg (pc := 2) (L := [mO 1 50, mO 7 c1, mI l2, mI l3, mU]) (S := []) m_X1_restingBases [2, 64] 61 H
set_option maxRecDepth 100000 in
theorem g_X1_restingBases_64 {μ : Mm} {K : MV → Mm → Prop} {c1 : Nat} {l2 : Int32} {l3 : Int32} {l4 : Int32} (H : (if 100 ≤ l4 then (if l2 = ((-1)) then K (mI l3) μ else K (mI ((-6))) μ) else (s_X1_bothRest [mO 1 50, mI l4] μ (fun v1 μ1 => (if (vI v1) = 0 then Tot e_X1_restingBases K 64 [mO 1 50, mO 7 c1, mI l2, mI l3, mI (l4 + 1)] [] μ1 else (if l3 = l2 then K (mI l4) μ1 else Tot e_X1_restingBases K 64 [mO 1 50, mO 7 c1, mI l2, mI (l3 + 1), mI (l4 + 1)] [] μ1)))))) : Tot e_X1_restingBases K 64 [mO 1 50, mO 7 c1, mI l2, mI l3, mI l4] [] μ := seg (pc := 64) (L := [mO 1 50, mO 7 c1, mI l2, mI l3, mI l4]) (S := []) m_X1_restingBases [2, 64] 61 H
set_option maxRecDepth 100000 in
theorem g_X3_add {μ : Mm} {K : MV → Mm → Prop} {l1 : Int32} (H : (if (μ 1 1) < 48 then (s_X5_put [mA 48 2, mI (μ 1 1), mI l1] μ (fun v1 μ1 => (zb 1 ∧ K (mI 1) (mS μ1 1 1 ((μ1 1 1) + 1))))) else (zb 0 ∧ K (mI 0) μ))) : s_X3_add [mO 3 1, mI l1] μ K := seg (pc := 0) (L := [mO 3 1, mI l1]) (S := []) m_X3_add [] 23 H
set_option maxRecDepth 100000 in
theorem g_X3_sign {μ : Mm} {K : MV → Mm → Prop} {l1 : Int32} (H : (s_X5_at [mA 48 2, mI l1] μ (fun v1 μ1 => K (mI (vI v1)) μ1))) : s_X3_sign [mO 3 1, mI l1] μ K := seg (pc := 0) (L := [mO 3 1, mI l1]) (S := []) m_X3_sign [] 8 H
set_option maxRecDepth 100000 in
theorem g_X3_tellsWorth {μ : Mm} {K : MV → Mm → Prop} {l0 : Int32} (H : (s_X9_within [mI l0, mI 97, mI 122] μ (fun v1 μ1 => (if (vI v1) = 0 then (s_X9_within [mI l0, mI 65, mI 74] μ1 (fun v2 μ2 => (if (vI v2) = 0 then (zb 0 ∧ K (mI 0) μ2) else (zb 1 ∧ K (mI 1) μ2)))) else (zb 1 ∧ K (mI 1) μ1))))) : s_X3_tellsWorth [mI l0] μ K := seg (pc := 0) (L := [mI l0]) (S := []) m_X3_tellsWorth [] 17 H
set_option maxRecDepth 100000 in
theorem g_X3_guestFault {μ : Mm} {K : MV → Mm → Prop} {l1 : Int32} (H : Tot e_X3_guestFault K 2 [mO 3 1, mI l1, mI 0] [] μ) : s_X3_guestFault [mO 3 1, mI l1] μ K := seg (pc := 0) (L := [mO 3 1, mI l1, mU]) (S := []) m_X3_guestFault [2] 30 H
set_option maxRecDepth 100000 in
theorem g_X3_guestFault_2 {μ : Mm} {K : MV → Mm → Prop} {l1 : Int32} {l2 : Int32} (H : (if (μ 1 1) ≤ l2 then (if l1 ≤ (μ 1 1) then K (mI ((-6))) μ else K (mI (μ 1 1)) μ) else (if l1 ≤ l2 then K (mI l2) μ else (s_X3_sign [mO 3 1, mI l2] μ (fun v1 μ1 => (s_X3_tellsWorth [mI (vI v1)] μ1 (fun v2 μ2 => (if (vI v2) = 0 then K (mI l2) μ2 else Tot e_X3_guestFault K 2 [mO 3 1, mI l1, mI (l2 + 1)] [] μ2)))))))) : Tot e_X3_guestFault K 2 [mO 3 1, mI l1, mI l2] [] μ := seg (pc := 2) (L := [mO 3 1, mI l1, mI l2]) (S := []) m_X3_guestFault [2] 30 H
set_option maxRecDepth 100000 in
theorem g_X3_actTold {μ : Mm} {K : MV → Mm → Prop} {l0 : Int32} (H : K (mI (l0 - 48)) μ) : s_X3_actTold [mI l0] μ K := seg (pc := 0) (L := [mI l0]) (S := []) m_X3_actTold [] 7 H
set_option maxRecDepth 100000 in
theorem g_X3_orderFault {μ : Mm} {K : MV → Mm → Prop} {l1 : Int32} (H : Tot e_X3_orderFault K 4 [mO 3 1, mI l1, mI 0, mI 0, mU] [] μ) : s_X3_orderFault [mO 3 1, mI l1] μ K := seg (pc := 0) (L := [mO 3 1, mI l1, mU, mU, mU]) (S := []) m_X3_orderFault [4] 48 H
set_option maxRecDepth 100000 in
theorem g_X3_orderFault_4 {μ : Mm} {K : MV → Mm → Prop} {l1 : Int32} {l2 : Int32} {l3 : Int32} {z4 : MV} (H : (if (μ 1 1) ≤ l3 then (if l1 ≤ (μ 1 1) then K (mI ((-6))) μ else K (mI (μ 1 1)) μ) else (s_X3_sign [mO 3 1, mI l3] μ (fun v1 μ1 => (s_X3_actTold [mI (vI v1)] μ1 (fun v2 μ2 => (s_X9_within [mI (vI v2), mI 0, mI (l1 - 1)] μ2 (fun v3 μ3 => (if (vI v3) = 0 then K (mI l3) μ3 else (if ((l2 >>> ((vI v2) &&& 31)) &&& 1) = 0 then Tot e_X3_orderFault K 4 [mO 3 1, mI l1, mI (l2 ||| ((1 : Int32) <<< ((vI v2) &&& 31))), mI (l3 + 1), mI (vI v2)] [] μ3 else K (mI l3) μ3)))))))))) : Tot e_X3_orderFault K 4 [mO 3 1, mI l1, mI l2, mI l3, z4] [] μ := seg (pc := 4) (L := [mO 3 1, mI l1, mI l2, mI l3, z4]) (S := []) m_X3_orderFault [4] 48 H
set_option maxRecDepth 100000 in
theorem g_X3_worthTold {μ : Mm} {K : MV → Mm → Prop} {l0 : Int32} (H : (if l0 < 97 then K (mI (64 - l0)) μ else K (mI (l0 - 97)) μ)) : s_X3_worthTold [mI l0] μ K := seg (pc := 0) (L := [mI l0]) (S := []) m_X3_worthTold [] 14 H
set_option maxRecDepth 100000 in
theorem g_X8_allPay {μ : Mm} {K : MV → Mm → Prop} {c0 : Nat} (H : Tot e_X8_allPay K 4 [mO 7 c0, mI 0, mI 0] [] μ) : s_X8_allPay [mO 7 c0] μ K := seg (pc := 0) (L := [mO 7 c0, mU, mU]) (S := []) m_X8_allPay [4] 20 H
set_option maxRecDepth 100000 in
theorem g_X8_allPay_4 {μ : Mm} {K : MV → Mm → Prop} {c0 : Nat} {l1 : Int32} {l2 : Int32} (H : (if 8 ≤ l2 then K (mI l1) μ else (s_X8_pays [mO 7 c0, mI l2] μ (fun v1 μ1 => Tot e_X8_allPay K 4 [mO 7 c0, mI (l1 + (vI v1)), mI (l2 + 1)] [] μ1)))) : Tot e_X8_allPay K 4 [mO 7 c0, mI l1, mI l2] [] μ := seg (pc := 4) (L := [mO 7 c0, mI l1, mI l2]) (S := []) m_X8_allPay [4] 20 H
set_option maxRecDepth 100000 in
theorem g_X4_faresForMost {μ : Mm} {K : MV → Mm → Prop} {c0 : Nat} {l1 : Int32} (H : Tot e_X4_faresForMost K 7 [mO 7 c0, mI l1, mI ((-1)), mI 0, mI 0, mU] [] μ) : s_X4_faresForMost [mO 7 c0, mI l1] μ K := seg (pc := 0) (L := [mO 7 c0, mI l1, mU, mU, mU, mU]) (S := []) m_X4_faresForMost [7] 46 H
set_option maxRecDepth 100000 in
theorem g_X4_faresForMost_7 {μ : Mm} {K : MV → Mm → Prop} {c0 : Nat} {l1 : Int32} {l2 : Int32} {l3 : Int32} {l4 : Int32} {z5 : MV} (H : (if 310 ≤ l4 then (if l1 = 0 then (¬ (10 : Int32) = 0 ∧ K (mI (l3 / 10)) μ) else (if l1 = 1 then (¬ (10 : Int32) = 0 ∧ K (mI (l3 - l3 / 10 * 10)) μ) else K (mI l2) μ)) else (¬ (10 : Int32) = 0 ∧ (¬ (10 : Int32) = 0 ∧ (s_X8_allPay [mO 7 c0] (mS (mS μ c0 1 (l4 / 10)) c0 2 (l4 - l4 / 10 * 10)) (fun v1 μ1 => (if (vI v1) ≤ l2 then Tot e_X4_faresForMost K 7 [mO 7 c0, mI l1, mI l2, mI l3, mI (l4 + 1), mI (vI v1)] [] μ1 else Tot e_X4_faresForMost K 7 [mO 7 c0, mI l1, mI (vI v1), mI l4, mI (l4 + 1), mI (vI v1)] [] μ1))))))) : Tot e_X4_faresForMost K 7 [mO 7 c0, mI l1, mI l2, mI l3, mI l4, z5] [] μ := seg (pc := 7) (L := [mO 7 c0, mI l1, mI l2, mI l3, mI l4, z5]) (S := []) m_X4_faresForMost [7] 46 H
set_option maxRecDepth 100000 in
theorem g_X8_orderByNumbers {μ : Mm} {K : MV → Mm → Prop} {c0 : Nat} (H : Tot e_X8_orderByNumbers K 2 [mO 7 c0, mI 0] [] μ) : s_X8_orderByNumbers [mO 7 c0] μ K := seg (pc := 0) (L := [mO 7 c0, mU]) (S := []) m_X8_orderByNumbers [2] 16 H
set_option maxRecDepth 100000 in
theorem g_X8_orderByNumbers_2 {μ : Mm} {K : MV → Mm → Prop} {c0 : Nat} {l1 : Int32} (H : (if 6 ≤ l1 then K mU μ else (s_X5_put [mA 6 (c0 + 1), mI l1, mI l1] μ (fun v1 μ1 => Tot e_X8_orderByNumbers K 2 [mO 7 c0, mI (l1 + 1)] [] μ1)))) : Tot e_X8_orderByNumbers K 2 [mO 7 c0, mI l1] [] μ := seg (pc := 2) (L := [mO 7 c0, mI l1]) (S := []) m_X8_orderByNumbers [2] 16 H
set_option maxRecDepth 100000 in
theorem g_X8_keepsMust {μ : Mm} {K : MV → Mm → Prop} {c0 : Nat} (H : Tot e_X8_keepsMust K 4 [mO 7 c0, mI 0, mI 0, mU] [] μ) : s_X8_keepsMust [mO 7 c0] μ K := seg (pc := 0) (L := [mO 7 c0, mU, mU, mU]) (S := []) m_X8_keepsMust [4] 35 H
set_option maxRecDepth 100000 in
theorem g_X8_keepsMust_4 {μ : Mm} {K : MV → Mm → Prop} {c0 : Nat} {l1 : Int32} {l2 : Int32} {z3 : MV} (H : (if (μ c0 0) ≤ l2 then (zb 1 ∧ K (mI 1) μ) else (s_X5_at [mA 6 (c0 + 1), mI l2] μ (fun v1 μ1 => (s_X5_at [mA 6 (c0 + 4), mI (vI v1)] μ1 (fun v2 μ2 => (if ((vI v2) &&& l1) = 0 then Tot e_X8_keepsMust K 4 [mO 7 c0, mI (l1 ||| ((1 : Int32) <<< ((vI v1) &&& 31))), mI (l2 + 1), mI (vI v1)] [] μ2 else (zb 0 ∧ K (mI 0) μ2)))))))) : Tot e_X8_keepsMust K 4 [mO 7 c0, mI l1, mI l2, z3] [] μ := seg (pc := 4) (L := [mO 7 c0, mI l1, mI l2, z3]) (S := []) m_X8_keepsMust [4] 35 H
set_option maxRecDepth 100000 in
theorem g_X5_copy {μ : Mm} {K : MV → Mm → Prop} {n0 : Nat} {c0 : Nat} {n1 : Nat} {c1 : Nat} (H : Tot e_X5_copy K 11 [mA n0 c0, mA n1 c1, mI 0] [] μ) : s_X5_copy [mA n0 c0, mA n1 c1] μ K := seg (pc := 0) (L := [mA n0 c0, mA n1 c1, mU]) (S := []) m_X5_copy [11] 27 H
set_option maxRecDepth 100000 in
theorem g_X5_copy_11 {μ : Mm} {K : MV → Mm → Prop} {n0 : Nat} {c0 : Nat} {n1 : Nat} {c1 : Nat} {l2 : Int32} (H : (if (nI n0) ≤ l2 then K mU μ else (if (nI n1) ≤ l2 then K mU μ else (vi l2 n0 ∧ (vi l2 n1 ∧ Tot e_X5_copy K 11 [mA n0 c0, mA n1 c1, mI (l2 + 1)] [] (mS μ c1 l2.toNatClampNeg (μ c0 l2.toNatClampNeg))))))) : Tot e_X5_copy K 11 [mA n0 c0, mA n1 c1, mI l2] [] μ := seg (pc := 11) (L := [mA n0 c0, mA n1 c1, mI l2]) (S := []) m_X5_copy [11] 27 H
set_option maxRecDepth 100000 in
theorem g_X5_swap {μ : Mm} {K : MV → Mm → Prop} {n0 : Nat} {c0 : Nat} {l1 : Int32} {l2 : Int32} (H : (s_X5_at [mA n0 c0, mI l1] μ (fun v1 μ1 => (s_X5_at [mA n0 c0, mI l2] μ1 (fun v2 μ2 => (s_X5_put [mA n0 c0, mI l1, mI (vI v2)] μ2 (fun v3 μ3 => (s_X5_put [mA n0 c0, mI l2, mI (vI v1)] μ3 (fun v4 μ4 => K mU μ4))))))))) : s_X5_swap [mA n0 c0, mI l1, mI l2] μ K := seg (pc := 0) (L := [mA n0 c0, mI l1, mI l2, mU]) (S := []) m_X5_swap [] 18 H
set_option maxRecDepth 100000 in
theorem g_X4_nextByDigits {μ : Mm} {K : MV → Mm → Prop} {n0 : Nat} {c0 : Nat} {l1 : Int32} (H : Tot e_X4_nextByDigits K 4 [mA n0 c0, mI l1, mI (l1 - 2), mU, mU, mU] [] μ) : s_X4_nextByDigits [mA n0 c0, mI l1] μ K := seg (pc := 0) (L := [mA n0 c0, mI l1, mU, mU, mU, mU]) (S := []) m_X4_nextByDigits [4, 39, 79] 64 H
set_option maxRecDepth 100000 in
theorem g_X4_nextByDigits_4 {μ : Mm} {K : MV → Mm → Prop} {n0 : Nat} {c0 : Nat} {l1 : Int32} {l2 : Int32} (H : (if l2 < 0 then (if 0 ≤ l2 then Tot e_X4_nextByDigits K 39 [mA n0 c0, mI l1, mI l2, mI (l1 - 1), mU, mU] [] μ else (zb 0 ∧ K (mI 0) μ)) else (s_X5_at [mA n0 c0, mI l2] μ (fun v1 μ1 => (s_X5_at [mA n0 c0, mI (l2 + 1)] μ1 (fun v2 μ2 => (if (vI v1) ≤ (vI v2) then (if 0 ≤ l2 then Tot e_X4_nextByDigits K 39 [mA n0 c0, mI l1, mI l2, mI (l1 - 1), mU, mU] [] μ2 else (zb 0 ∧ K (mI 0) μ2)) else Tot e_X4_nextByDigits K 4 [mA n0 c0, mI l1, mI (l2 + (-1)), mU, mU, mU] [] μ2))))))) : Tot e_X4_nextByDigits K 4 [mA n0 c0, mI l1, mI l2, mU, mU, mU] [] μ := seg (pc := 4) (L := [mA n0 c0, mI l1, mI l2, mU, mU, mU]) (S := []) m_X4_nextByDigits [4, 39, 79] 64 H
set_option maxRecDepth 100000 in
theorem g_X4_nextByDigits_39 {μ : Mm} {K : MV → Mm → Prop} {n0 : Nat} {c0 : Nat} {l1 : Int32} {l2 : Int32} {l3 : Int32} (H : (if l3 ≤ l2 then (s_X5_swap [mA n0 c0, mI l2, mI l3] μ (fun v1 μ1 => Tot e_X4_nextByDigits K 79 [mA n0 c0, mI l1, mI l2, mI l3, mI (l2 + 1), mI (l1 - 1)] [] μ1)) else (s_X5_at [mA n0 c0, mI l3] μ (fun v1 μ1 => (s_X5_at [mA n0 c0, mI l2] μ1 (fun v2 μ2 => (if (vI v2) ≤ (vI v1) then (s_X5_swap [mA n0 c0, mI l2, mI l3] μ2 (fun v3 μ3 => Tot e_X4_nextByDigits K 79 [mA n0 c0, mI l1, mI l2, mI l3, mI (l2 + 1), mI (l1 - 1)] [] μ3)) else Tot e_X4_nextByDigits K 39 [mA n0 c0, mI l1, mI l2, mI (l3 + (-1)), mU, mU] [] μ2))))))) : Tot e_X4_nextByDigits K 39 [mA n0 c0, mI l1, mI l2, mI l3, mU, mU] [] μ := seg (pc := 39) (L := [mA n0 c0, mI l1, mI l2, mI l3, mU, mU]) (S := []) m_X4_nextByDigits [4, 39, 79] 64 H
set_option maxRecDepth 100000 in
theorem g_X4_nextByDigits_79 {μ : Mm} {K : MV → Mm → Prop} {n0 : Nat} {c0 : Nat} {l1 : Int32} {l2 : Int32} {l3 : Int32} {l4 : Int32} {l5 : Int32} (H : (if l5 ≤ l4 then (zb 1 ∧ K (mI 1) μ) else (s_X5_swap [mA n0 c0, mI l4, mI l5] μ (fun v1 μ1 => Tot e_X4_nextByDigits K 79 [mA n0 c0, mI l1, mI l2, mI l3, mI (l4 + 1), mI (l5 + (-1))] [] μ1)))) : Tot e_X4_nextByDigits K 79 [mA n0 c0, mI l1, mI l2, mI l3, mI l4, mI l5] [] μ := seg (pc := 79) (L := [mA n0 c0, mI l1, mI l2, mI l3, mI l4, mI l5]) (S := []) m_X4_nextByDigits [4, 39, 79] 64 H
set_option maxRecDepth 100000 in
theorem g_X4_orderForMost {μ : Mm} {K : MV → Mm → Prop} {c1 : Nat} {l2 : Int32} (H : (s_X8_orderByNumbers [mO 7 c1] μ (fun v1 μ1 => Tot e_X4_orderForMost K 9 [mO 4 45, mO 7 c1, mI l2, mI ((-1)), mI 0, mU] [] μ1))) : s_X4_orderForMost [mO 4 45, mO 7 c1, mI l2] μ K := seg (pc := 0) (L := [mO 4 45, mO 7 c1, mI l2, mU, mU, mU]) (S := []) m_X4_orderForMost [9] 49 H
set_option maxRecDepth 100000 in
theorem g_X4_orderForMost_9 {μ : Mm} {K : MV → Mm → Prop} {c1 : Nat} {l2 : Int32} {l3 : Int32} {l4 : Int32} {z5 : MV} (H : (if 720 ≤ l4 then (if l2 = ((-1)) then K (mI l3) μ else (s_X5_at [mA 6 46, mI l2] μ (fun v1 μ1 => K (mI (vI v1)) μ1))) else (s_X8_keepsMust [mO 7 c1] μ (fun v1 μ1 => (if (vI v1) = 0 then (if ((-1) : Int32) ≤ l3 then (s_X4_nextByDigits [mA 6 (c1 + 1), mI (μ1 c1 0)] μ1 (fun v2 μ2 => (if (vI v2) = 0 then (if l2 = ((-1)) then K (mI l3) μ2 else (s_X5_at [mA 6 46, mI l2] μ2 (fun v3 μ3 => K (mI (vI v3)) μ3))) else Tot e_X4_orderForMost K 9 [mO 4 45, mO 7 c1, mI l2, mI l3, mI (l4 + 1), mI ((-1))] [] μ2))) else (s_X5_copy [mA 6 (c1 + 1), mA 6 46] μ1 (fun v2 μ2 => (s_X4_nextByDigits [mA 6 (c1 + 1), mI (μ2 c1 0)] μ2 (fun v3 μ3 => (if (vI v3) = 0 then (if l2 = ((-1)) then K (mI ((-1))) μ3 else (s_X5_at [mA 6 46, mI l2] μ3 (fun v4 μ4 => K (mI (vI v4)) μ4))) else Tot e_X4_orderForMost K 9 [mO 4 45, mO 7 c1, mI l2, mI ((-1)), mI (l4 + 1), mI ((-1))] [] μ3)))))) else (s_X8_allPay [mO 7 c1] μ1 (fun v2 μ2 => (if (vI v2) ≤ l3 then (s_X4_nextByDigits [mA 6 (c1 + 1), mI (μ2 c1 0)] μ2 (fun v3 μ3 => (if (vI v3) = 0 then (if l2 = ((-1)) then K (mI l3) μ3 else (s_X5_at [mA 6 46, mI l2] μ3 (fun v4 μ4 => K (mI (vI v4)) μ4))) else Tot e_X4_orderForMost K 9 [mO 4 45, mO 7 c1, mI l2, mI l3, mI (l4 + 1), mI (vI v2)] [] μ3))) else (s_X5_copy [mA 6 (c1 + 1), mA 6 46] μ2 (fun v3 μ3 => (s_X4_nextByDigits [mA 6 (c1 + 1), mI (μ3 c1 0)] μ3 (fun v4 μ4 => (if (vI v4) = 0 then (if l2 = ((-1)) then K (mI (vI v2)) μ4 else (s_X5_at [mA 6 46, mI l2] μ4 (fun v5 μ5 => K (mI (vI v5)) μ5))) else Tot e_X4_orderForMost K 9 [mO 4 45, mO 7 c1, mI l2, mI (vI v2), mI (l4 + 1), mI (vI v2)] [] μ4))))))))))))) : Tot e_X4_orderForMost K 9 [mO 4 45, mO 7 c1, mI l2, mI l3, mI l4, z5] [] μ := seg (pc := 9) (L := [mO 4 45, mO 7 c1, mI l2, mI l3, mI l4, z5]) (S := []) m_X4_orderForMost [9] 49 H
set_option maxRecDepth 100000 in
theorem g_X8_worthTo {μ : Mm} {K : MV → Mm → Prop} {c0 : Nat} {l1 : Int32} {l2 : Int32} (H : (s_X5_at [mA 48 (c0 + 2), mI ((l1 * 6) + l2)] μ (fun v1 μ1 => K (mI (vI v1)) μ1))) : s_X8_worthTo [mO 7 c0, mI l1, mI l2] μ K := seg (pc := 0) (L := [mO 7 c0, mI l1, mI l2]) (S := []) m_X8_worthTo [] 12 H
set_option maxRecDepth 100000 in
theorem g_X8_putWorth {μ : Mm} {K : MV → Mm → Prop} {c0 : Nat} {l1 : Int32} {l2 : Int32} {l3 : Int32} (H : (s_X5_put [mA 48 (c0 + 2), mI ((l1 * 6) + l2), mI l3] μ (fun v1 μ1 => K mU μ1))) : s_X8_putWorth [mO 7 c0, mI l1, mI l2, mI l3] μ K := seg (pc := 0) (L := [mO 7 c0, mI l1, mI l2, mI l3]) (S := []) m_X8_putWorth [] 13 H
set_option maxRecDepth 100000 in
theorem g_X4_weepAt {μ : Mm} {K : MV → Mm → Prop} {c0 : Nat} {l1 : Int32} {l2 : Int32} (H : Tot e_X4_weepAt K 2 [mO 7 c0, mI l1, mI l2, mI 0] [] μ) : s_X4_weepAt [mO 7 c0, mI l1, mI l2] μ K := seg (pc := 0) (L := [mO 7 c0, mI l1, mI l2, mU]) (S := []) m_X4_weepAt [2] 21 H
set_option maxRecDepth 100000 in
theorem g_X4_weepAt_2 {μ : Mm} {K : MV → Mm → Prop} {c0 : Nat} {l1 : Int32} {l2 : Int32} {l3 : Int32} (H : (if 8 ≤ l3 then K mU μ else (s_X8_worthTo [mO 7 c0, mI l3, mI l1] μ (fun v1 μ1 => (s_X8_putWorth [mO 7 c0, mI l3, mI l1, mI ((vI v1) + l2)] μ1 (fun v2 μ2 => Tot e_X4_weepAt K 2 [mO 7 c0, mI l1, mI l2, mI (l3 + 1)] [] μ2)))))) : Tot e_X4_weepAt K 2 [mO 7 c0, mI l1, mI l2, mI l3] [] μ := seg (pc := 2) (L := [mO 7 c0, mI l1, mI l2, mI l3]) (S := []) m_X4_weepAt [2] 21 H
set_option maxRecDepth 100000 in
theorem g_X4_actForClaque {μ : Mm} {K : MV → Mm → Prop} {c0 : Nat} {l1 : Int32} {l2 : Int32} (H : Tot e_X4_actForClaque K 8 [mO 7 c0, mI l1, mI l2, mI ((-1)), mI 0, mI 0, mU] [] μ) : s_X4_actForClaque [mO 7 c0, mI l1, mI l2] μ K := seg (pc := 0) (L := [mO 7 c0, mI l1, mI l2, mU, mU, mU, mU]) (S := []) m_X4_actForClaque [8] 40 H
set_option maxRecDepth 100000 in
theorem g_X4_actForClaque_8 {μ : Mm} {K : MV → Mm → Prop} {c0 : Nat} {l1 : Int32} {l2 : Int32} {l3 : Int32} {l4 : Int32} {l5 : Int32} {z6 : MV} (H : (if (μ c0 0) ≤ l5 then (if l2 = 0 then K (mI l4) μ else K (mI l3) μ) else (s_X4_weepAt [mO 7 c0, mI l5, mI l1] μ (fun v1 μ1 => (s_X8_allPay [mO 7 c0] μ1 (fun v2 μ2 => (s_X4_weepAt [mO 7 c0, mI l5, mI (-l1)] μ2 (fun v3 μ3 => (if (vI v2) ≤ l3 then Tot e_X4_actForClaque K 8 [mO 7 c0, mI l1, mI l2, mI l3, mI l4, mI (l5 + 1), mI (vI v2)] [] μ3 else Tot e_X4_actForClaque K 8 [mO 7 c0, mI l1, mI l2, mI (vI v2), mI l5, mI (l5 + 1), mI (vI v2)] [] μ3))))))))) : Tot e_X4_actForClaque K 8 [mO 7 c0, mI l1, mI l2, mI l3, mI l4, mI l5, z6] [] μ := seg (pc := 8) (L := [mO 7 c0, mI l1, mI l2, mI l3, mI l4, mI l5, z6]) (S := []) m_X4_actForClaque [8] 40 H
set_option maxRecDepth 100000 in
theorem g_X6_readLater {μ : Mm} {K : MV → Mm → Prop} {c1 : Nat} (H : Tot e_X6_readLater K 2 [mO 5 47, mO 7 c1, mI 0, mU, mU] [] μ) : s_X6_readLater [mO 5 47, mO 7 c1] μ K := seg (pc := 0) (L := [mO 5 47, mO 7 c1, mU, mU, mU]) (S := []) m_X6_readLater [2, 13] 42 H
set_option maxRecDepth 100000 in
theorem g_X6_readLater_2 {μ : Mm} {K : MV → Mm → Prop} {c1 : Nat} {l2 : Int32} {z3 : MV} {z4 : MV} (H : (if 8 ≤ l2 then K mU μ else Tot e_X6_readLater K 13 [mO 5 47, mO 7 c1, mI l2, mI 0, mI 0] [] μ)) : Tot e_X6_readLater K 2 [mO 5 47, mO 7 c1, mI l2, z3, z4] [] μ := seg (pc := 2) (L := [mO 5 47, mO 7 c1, mI l2, z3, z4]) (S := []) m_X6_readLater [2, 13] 42 H
set_option maxRecDepth 100000 in
theorem g_X6_readLater_13 {μ : Mm} {K : MV → Mm → Prop} {c1 : Nat} {l2 : Int32} {l3 : Int32} {l4 : Int32} (H : (if 8 ≤ l4 then (s_X5_put [mA 8 49, mI l2, mI l3] μ (fun v1 μ1 => Tot e_X6_readLater K 2 [mO 5 47, mO 7 c1, mI (l2 + 1), mI l3, mI l4] [] μ1)) else (s_X8_comes [mO 7 c1, mI l4] μ (fun v1 μ1 => (if (vI v1) = 0 then Tot e_X6_readLater K 13 [mO 5 47, mO 7 c1, mI l2, mI l3, mI (l4 + 1)] [] μ1 else (s_X8_behind [mO 7 c1, mI l4] μ1 (fun v2 μ2 => (s_X8_behind [mO 7 c1, mI l2] μ2 (fun v3 μ3 => (if (vI v2) ≤ (vI v3) then Tot e_X6_readLater K 13 [mO 5 47, mO 7 c1, mI l2, mI l3, mI (l4 + 1)] [] μ3 else Tot e_X6_readLater K 13 [mO 5 47, mO 7 c1, mI l2, mI (l3 ||| ((1 : Int32) <<< (l4 &&& 31))), mI (l4 + 1)] [] μ3)))))))))) : Tot e_X6_readLater K 13 [mO 5 47, mO 7 c1, mI l2, mI l3, mI l4] [] μ := seg (pc := 13) (L := [mO 5 47, mO 7 c1, mI l2, mI l3, mI l4]) (S := []) m_X6_readLater [2, 13] 42 H
set_option maxRecDepth 100000 in
theorem g_X6_maySit {μ : Mm} {K : MV → Mm → Prop} {c0 : Nat} {l1 : Int32} {l2 : Int32} {l3 : Int32} (H : (s_X5_at [mA 8 (c0 + 5), mI l3] μ (fun v1 μ1 => (s_X8_comes [mO 7 c0, mI l3] μ1 (fun v2 μ2 => (if (vI v2) = 0 then (zb 0 ∧ K (mI 0) μ2) else (if ((l1 >>> (l3 &&& 31)) &&& 1) = 0 then (if (((vI v1) &&& l1) &&& (((1 : Int32) <<< (l2 &&& 31)) ^^^ ((-1)))) = 0 then (zb 1 ∧ K (mI 1) μ2) else (zb 0 ∧ K (mI 0) μ2)) else (zb 0 ∧ K (mI 0) μ2)))))))) : s_X6_maySit [mO 7 c0, mI l1, mI l2, mI l3] μ K := seg (pc := 0) (L := [mO 7 c0, mI l1, mI l2, mI l3, mU]) (S := []) m_X6_maySit [] 32 H
set_option maxRecDepth 100000 in
theorem g_X6_fewestBehind {μ : Mm} {K : MV → Mm → Prop} {l1 : Int32} {l2 : Int32} (H : (s_X5_at [mA 2048 48, mI ((l1 * 8) + l2)] μ (fun v1 μ1 => K (mI (vI v1)) μ1))) : s_X6_fewestBehind [mO 5 47, mI l1, mI l2] μ K := seg (pc := 0) (L := [mO 5 47, mI l1, mI l2]) (S := []) m_X6_fewestBehind [] 12 H
set_option maxRecDepth 100000 in
theorem g_X6_fewestWith {μ : Mm} {K : MV → Mm → Prop} {l1 : Int32} {l2 : Int32} (H : (s_X5_at [mA 8 49, mI l2] μ (fun v1 μ1 => (s_J6_bitCount [mI ((vI v1) &&& l1)] μ1 (fun v2 μ2 => (s_J6_bitCount [mI ((vI v1) &&& (l1 ^^^ ((-1))))] μ2 (fun v3 μ3 => (s_X6_fewestBehind [mO 5 47, mI (l1 ||| ((1 : Int32) <<< (l2 &&& 31))), mI l2] μ3 (fun v4 μ4 => K (mI ((if (vI v3) < (vI v2) then (vI v3) else (vI v2)) + (vI v4))) μ4))))))))) : s_X6_fewestWith [mO 5 47, mI l1, mI l2] μ K := seg (pc := 0) (L := [mO 5 47, mI l1, mI l2, mU, mU]) (S := []) m_X6_fewestWith [] 31 H
set_option maxRecDepth 100000 in
theorem g_X6_fillBehind {μ : Mm} {K : MV → Mm → Prop} {c1 : Nat} {l2 : Int32} (H : Tot e_X6_fillBehind K 2 [mO 5 47, mO 7 c1, mI l2, mI 0, mU, mU] [] μ) : s_X6_fillBehind [mO 5 47, mO 7 c1, mI l2] μ K := seg (pc := 0) (L := [mO 5 47, mO 7 c1, mI l2, mU, mU, mU]) (S := []) m_X6_fillBehind [2, 28] 48 H
set_option maxRecDepth 100000 in
theorem g_X6_fillBehind_2 {μ : Mm} {K : MV → Mm → Prop} {c1 : Nat} {l2 : Int32} {l3 : Int32} {z4 : MV} {z5 : MV} (H : (if 8 ≤ l3 then K mU μ else (if l2 = (μ c1 5) then Tot e_X6_fillBehind K 28 [mO 5 47, mO 7 c1, mI l2, mI l3, mI 0, mI 0] [] μ else Tot e_X6_fillBehind K 28 [mO 5 47, mO 7 c1, mI l2, mI l3, mI 1000, mI 0] [] μ))) : Tot e_X6_fillBehind K 2 [mO 5 47, mO 7 c1, mI l2, mI l3, z4, z5] [] μ := seg (pc := 2) (L := [mO 5 47, mO 7 c1, mI l2, mI l3, z4, z5]) (S := []) m_X6_fillBehind [2, 28] 48 H
set_option maxRecDepth 100000 in
theorem g_X6_fillBehind_28 {μ : Mm} {K : MV → Mm → Prop} {c1 : Nat} {l2 : Int32} {l3 : Int32} {l4 : Int32} {l5 : Int32} (H : (if 8 ≤ l5 then (s_X5_put [mA 2048 48, mI ((l2 * 8) + l3), mI l4] μ (fun v1 μ1 => Tot e_X6_fillBehind K 2 [mO 5 47, mO 7 c1, mI l2, mI (l3 + 1), mI l4, mI l5] [] μ1)) else (s_X6_maySit [mO 7 c1, mI l2, mI l3, mI l5] μ (fun v1 μ1 => (if (vI v1) = 0 then Tot e_X6_fillBehind K 28 [mO 5 47, mO 7 c1, mI l2, mI l3, mI l4, mI (l5 + 1)] [] μ1 else (s_X6_fewestWith [mO 5 47, mI l2, mI l5] μ1 (fun v2 μ2 => Tot e_X6_fillBehind K 28 [mO 5 47, mO 7 c1, mI l2, mI l3, mI (if (vI v2) < l4 then (vI v2) else l4), mI (l5 + 1)] [] μ2))))))) : Tot e_X6_fillBehind K 28 [mO 5 47, mO 7 c1, mI l2, mI l3, mI l4, mI l5] [] μ := seg (pc := 28) (L := [mO 5 47, mO 7 c1, mI l2, mI l3, mI l4, mI l5]) (S := []) m_X6_fillBehind [2, 28] 48 H
set_option maxRecDepth 100000 in
theorem g_X6_firstOfFewest {μ : Mm} {K : MV → Mm → Prop} {c1 : Nat} {l2 : Int32} {l3 : Int32} (H : (s_X6_fewestBehind [mO 5 47, mI l2, mI l3] μ (fun v1 μ1 => Tot e_X6_firstOfFewest K 11 [mO 5 47, mO 7 c1, mI l2, mI l3, mI (vI v1), mI 0] [] μ1))) : s_X6_firstOfFewest [mO 5 47, mO 7 c1, mI l2, mI l3] μ K := seg (pc := 0) (L := [mO 5 47, mO 7 c1, mI l2, mI l3, mU, mU]) (S := []) m_X6_firstOfFewest [11] 31 H
set_option maxRecDepth 100000 in
theorem g_X6_firstOfFewest_11 {μ : Mm} {K : MV → Mm → Prop} {c1 : Nat} {l2 : Int32} {l3 : Int32} {l4 : Int32} {l5 : Int32} (H : (if 8 ≤ l5 then K (mI l3) μ else (s_X6_maySit [mO 7 c1, mI l2, mI l3, mI l5] μ (fun v1 μ1 => (if (vI v1) = 0 then Tot e_X6_firstOfFewest K 11 [mO 5 47, mO 7 c1, mI l2, mI l3, mI l4, mI (l5 + 1)] [] μ1 else (s_X6_fewestWith [mO 5 47, mI l2, mI l5] μ1 (fun v2 μ2 => (if (vI v2) = l4 then K (mI l5) μ2 else Tot e_X6_firstOfFewest K 11 [mO 5 47, mO 7 c1, mI l2, mI l3, mI l4, mI (l5 + 1)] [] μ2)))))))) : Tot e_X6_firstOfFewest K 11 [mO 5 47, mO 7 c1, mI l2, mI l3, mI l4, mI l5] [] μ := seg (pc := 11) (L := [mO 5 47, mO 7 c1, mI l2, mI l3, mI l4, mI l5]) (S := []) m_X6_firstOfFewest [11] 31 H
set_option maxRecDepth 100000 in
theorem g_X6_guestOnSeat {μ : Mm} {K : MV → Mm → Prop} {c1 : Nat} {l2 : Int32} (H : Tot e_X6_guestOnSeat K 8 [mO 5 47, mO 7 c1, mI l2, mI 0, mI 0, mI 0] [] μ) : s_X6_guestOnSeat [mO 5 47, mO 7 c1, mI l2] μ K := seg (pc := 0) (L := [mO 5 47, mO 7 c1, mI l2, mU, mU, mU]) (S := []) m_X6_guestOnSeat [8] 35 H
set_option maxRecDepth 100000 in
theorem g_X6_guestOnSeat_8 {μ : Mm} {K : MV → Mm → Prop} {c1 : Nat} {l2 : Int32} {l3 : Int32} {l4 : Int32} {l5 : Int32} (H : (s_J6_bitCount [mI (μ c1 5)] μ (fun v1 μ1 => (if (vI v1) ≤ l5 then K (mI ((-6))) μ1 else (s_X6_firstOfFewest [mO 5 47, mO 7 c1, mI l3, mI l4] μ1 (fun v2 μ2 => (if l5 = l2 then K (mI (vI v2)) μ2 else Tot e_X6_guestOnSeat K 8 [mO 5 47, mO 7 c1, mI l2, mI (l3 ||| ((1 : Int32) <<< ((vI v2) &&& 31))), mI (vI v2), mI (l5 + 1)] [] μ2))))))) : Tot e_X6_guestOnSeat K 8 [mO 5 47, mO 7 c1, mI l2, mI l3, mI l4, mI l5] [] μ := seg (pc := 8) (L := [mO 5 47, mO 7 c1, mI l2, mI l3, mI l4, mI l5]) (S := []) m_X6_guestOnSeat [8] 35 H
set_option maxRecDepth 100000 in
theorem g_X6_seated {μ : Mm} {K : MV → Mm → Prop} {c1 : Nat} {l2 : Int32} (H : (s_X6_readLater [mO 5 47, mO 7 c1] μ (fun v1 μ1 => Tot e_X6_seated K 10 [mO 5 47, mO 7 c1, mI l2, mI (μ1 c1 5)] [] μ1))) : s_X6_seated [mO 5 47, mO 7 c1, mI l2] μ K := seg (pc := 0) (L := [mO 5 47, mO 7 c1, mI l2, mU]) (S := []) m_X6_seated [10] 44 H
set_option maxRecDepth 100000 in
theorem g_X6_seated_10 {μ : Mm} {K : MV → Mm → Prop} {c1 : Nat} {l2 : Int32} {l3 : Int32} (H : (if l3 < 0 then (s_X6_fewestBehind [mO 5 47, mI 0, mI 0] μ (fun v1 μ1 => (if (vI v1) < 1000 then (if l2 = ((-1)) then K (mI (vI v1)) μ1 else (s_X6_guestOnSeat [mO 5 47, mO 7 c1, mI l2] μ1 (fun v2 μ2 => K (mI (vI v2)) μ2))) else K (mI ((-6))) μ1))) else (if (l3 &&& ((μ c1 5) ^^^ ((-1)))) = 0 then (s_X6_fillBehind [mO 5 47, mO 7 c1, mI l3] μ (fun v1 μ1 => Tot e_X6_seated K 10 [mO 5 47, mO 7 c1, mI l2, mI (l3 + (-1))] [] μ1)) else Tot e_X6_seated K 10 [mO 5 47, mO 7 c1, mI l2, mI (l3 + (-1))] [] μ))) : Tot e_X6_seated K 10 [mO 5 47, mO 7 c1, mI l2, mI l3] [] μ := seg (pc := 10) (L := [mO 5 47, mO 7 c1, mI l2, mI l3]) (S := []) m_X6_seated [10] 44 H
set_option maxRecDepth 100000 in
theorem g_X7_copyFrom {μ : Mm} {K : MV → Mm → Prop} {c0 : Nat} {c1 : Nat} (H : (s_X5_copy [mA 6 (c1 + 1), mA 6 (c0 + 1)] (mS μ c0 0 (μ c1 0)) (fun v1 μ1 => (s_X5_copy [mA 6 (c1 + 2), mA 6 (c0 + 2)] μ1 (fun v2 μ2 => (s_X5_copy [mA 6 (c1 + 3), mA 6 (c0 + 3)] μ2 (fun v3 μ3 => K mU μ3))))))) : s_X7_copyFrom [mO 6 c0, mO 6 c1] μ K := seg (pc := 0) (L := [mO 6 c0, mO 6 c1]) (S := []) m_X7_copyFrom [] 23 H
set_option maxRecDepth 100000 in
theorem g_X7_add {μ : Mm} {K : MV → Mm → Prop} {c0 : Nat} {l1 : Int32} {l2 : Int32} {l3 : Int32} (H : (if (μ c0 0) < 6 then (s_X5_put [mA 6 (c0 + 1), mI (μ c0 0), mI l1] μ (fun v1 μ1 => (s_X5_put [mA 6 (c0 + 2), mI (μ1 c0 0), mI l2] μ1 (fun v2 μ2 => (s_X5_put [mA 6 (c0 + 3), mI (μ2 c0 0), mI l3] μ2 (fun v3 μ3 => (zb 1 ∧ K (mI 1) (mS μ3 c0 0 ((μ3 c0 0) + 1))))))))) else (zb 0 ∧ K (mI 0) μ))) : s_X7_add [mO 6 c0, mI l1, mI l2, mI l3] μ K := seg (pc := 0) (L := [mO 6 c0, mI l1, mI l2, mI l3]) (S := []) m_X7_add [] 35 H
set_option maxRecDepth 100000 in
theorem g_X7_allow {μ : Mm} {K : MV → Mm → Prop} {c0 : Nat} {c1 : Nat} {l2 : Int32} (H : Tot e_X7_allow K 2 [mO 6 c0, mO 7 c1, mI l2, mI 0] [] μ) : s_X7_allow [mO 6 c0, mO 7 c1, mI l2] μ K := seg (pc := 0) (L := [mO 6 c0, mO 7 c1, mI l2, mU]) (S := []) m_X7_allow [2] 35 H
set_option maxRecDepth 100000 in
theorem g_X7_allow_2 {μ : Mm} {K : MV → Mm → Prop} {c0 : Nat} {c1 : Nat} {l2 : Int32} {l3 : Int32} (H : (if (μ c0 0) ≤ l3 then (zb 1 ∧ K (mI 1) μ) else (s_X5_at [mA 6 (c0 + 1), mI l3] μ (fun v1 μ1 => (if (vI v1) = l2 then (s_X5_at [mA 6 (c0 + 3), mI l3] μ1 (fun v2 μ2 => (s_X8_behind [mO 7 c1, mI l2] (mS μ2 c1 1 (vI v2)) (fun v3 μ3 => (s_X5_at [mA 6 (c0 + 2), mI l3] μ3 (fun v4 μ4 => (if (vI v3) = (vI v4) then Tot e_X7_allow K 2 [mO 6 c0, mO 7 c1, mI l2, mI (l3 + 1)] [] μ4 else (zb 0 ∧ K (mI 0) μ4)))))))) else Tot e_X7_allow K 2 [mO 6 c0, mO 7 c1, mI l2, mI (l3 + 1)] [] μ1))))) : Tot e_X7_allow K 2 [mO 6 c0, mO 7 c1, mI l2, mI l3] [] μ := seg (pc := 2) (L := [mO 6 c0, mO 7 c1, mI l2, mI l3]) (S := []) m_X7_allow [2] 35 H
set_option maxRecDepth 100000 in
theorem g_X7_worthsThatFit {μ : Mm} {K : MV → Mm → Prop} {c0 : Nat} {l1 : Int32} {l2 : Int32} {l3 : Int32} (H : Tot e_X7_worthsThatFit K 15 [mO 7 c0, mI l1, mI l2, mI l3, mI 0, mI ((-6)), mI ((-6)), mI ((-10))] [] μ) : s_X7_worthsThatFit [mO 7 c0, mI l1, mI l2, mI l3] μ K := seg (pc := 0) (L := [mO 7 c0, mI l1, mI l2, mI l3, mU, mU, mU, mU]) (S := []) m_X7_worthsThatFit [15] 46 H
set_option maxRecDepth 100000 in
theorem g_X7_worthsThatFit_15 {μ : Mm} {K : MV → Mm → Prop} {c0 : Nat} {l1 : Int32} {l2 : Int32} {l3 : Int32} {l4 : Int32} {l5 : Int32} {l6 : Int32} {l7 : Int32} (H : (if 25 < l7 then (if l3 = 0 then K (mI l4) μ else (if l3 = 1 then K (mI l5) μ else K (mI l6) μ)) else (s_X8_putWorth [mO 7 c0, mI l1, mI l2, mI l7] μ (fun v1 μ1 => (s_X7_allow [mO 6 (c0 + 6), mO 7 c0, mI l1] μ1 (fun v2 μ2 => (if (vI v2) = 0 then Tot e_X7_worthsThatFit K 15 [mO 7 c0, mI l1, mI l2, mI l3, mI l4, mI l5, mI l6, mI (l7 + 1)] [] μ2 else (if l4 = 0 then Tot e_X7_worthsThatFit K 15 [mO 7 c0, mI l1, mI l2, mI l3, mI (l4 + 1), mI (l7 - ((-10))), mI (l7 - ((-10))), mI (l7 + 1)] [] μ2 else Tot e_X7_worthsThatFit K 15 [mO 7 c0, mI l1, mI l2, mI l3, mI (l4 + 1), mI l5, mI (l7 - ((-10))), mI (l7 + 1)] [] μ2)))))))) : Tot e_X7_worthsThatFit K 15 [mO 7 c0, mI l1, mI l2, mI l3, mI l4, mI l5, mI l6, mI l7] [] μ := seg (pc := 15) (L := [mO 7 c0, mI l1, mI l2, mI l3, mI l4, mI l5, mI l6, mI l7]) (S := []) m_X7_worthsThatFit [15] 46 H
set_option maxRecDepth 100000 in
theorem g_X8_copyFrom {μ : Mm} {K : MV → Mm → Prop} {c0 : Nat} {c1 : Nat} (H : (s_X5_copy [mA 6 (c1 + 1), mA 6 (c0 + 1)] (mS (mS (mS (mS (mS (mS μ c0 0 (μ c1 0)) c0 1 ((mS μ c0 0 (μ c1 0)) c1 1)) c0 2 ((mS (mS μ c0 0 (μ c1 0)) c0 1 ((mS μ c0 0 (μ c1 0)) c1 1)) c1 2)) c0 3 ((mS (mS (mS μ c0 0 (μ c1 0)) c0 1 ((mS μ c0 0 (μ c1 0)) c1 1)) c0 2 ((mS (mS μ c0 0 (μ c1 0)) c0 1 ((mS μ c0 0 (μ c1 0)) c1 1)) c1 2)) c1 3)) c0 4 ((mS (mS (mS (mS μ c0 0 (μ c1 0)) c0 1 ((mS μ c0 0 (μ c1 0)) c1 1)) c0 2 ((mS (mS μ c0 0 (μ c1 0)) c0 1 ((mS μ c0 0 (μ c1 0)) c1 1)) c1 2)) c0 3 ((mS (mS (mS μ c0 0 (μ c1 0)) c0 1 ((mS μ c0 0 (μ c1 0)) c1 1)) c0 2 ((mS (mS μ c0 0 (μ c1 0)) c0 1 ((mS μ c0 0 (μ c1 0)) c1 1)) c1 2)) c1 3)) c1 4)) c0 5 ((mS (mS (mS (mS (mS μ c0 0 (μ c1 0)) c0 1 ((mS μ c0 0 (μ c1 0)) c1 1)) c0 2 ((mS (mS μ c0 0 (μ c1 0)) c0 1 ((mS μ c0 0 (μ c1 0)) c1 1)) c1 2)) c0 3 ((mS (mS (mS μ c0 0 (μ c1 0)) c0 1 ((mS μ c0 0 (μ c1 0)) c1 1)) c0 2 ((mS (mS μ c0 0 (μ c1 0)) c0 1 ((mS μ c0 0 (μ c1 0)) c1 1)) c1 2)) c1 3)) c0 4 ((mS (mS (mS (mS μ c0 0 (μ c1 0)) c0 1 ((mS μ c0 0 (μ c1 0)) c1 1)) c0 2 ((mS (mS μ c0 0 (μ c1 0)) c0 1 ((mS μ c0 0 (μ c1 0)) c1 1)) c1 2)) c0 3 ((mS (mS (mS μ c0 0 (μ c1 0)) c0 1 ((mS μ c0 0 (μ c1 0)) c1 1)) c0 2 ((mS (mS μ c0 0 (μ c1 0)) c0 1 ((mS μ c0 0 (μ c1 0)) c1 1)) c1 2)) c1 3)) c1 4)) c1 5)) (fun v1 μ1 => (s_X5_copy [mA 48 (c1 + 2), mA 48 (c0 + 2)] μ1 (fun v2 μ2 => (s_X5_copy [mA 6 (c1 + 3), mA 6 (c0 + 3)] μ2 (fun v3 μ3 => (s_X5_copy [mA 6 (c1 + 4), mA 6 (c0 + 4)] μ3 (fun v4 μ4 => (s_X5_copy [mA 8 (c1 + 5), mA 8 (c0 + 5)] μ4 (fun v5 μ5 => (s_X7_copyFrom [mO 6 (c0 + 6), mO 6 (c1 + 6)] μ5 (fun v6 μ6 => K mU μ6))))))))))))) : s_X8_copyFrom [mO 7 c0, mO 7 c1] μ K := seg (pc := 0) (L := [mO 7 c0, mO 7 c1]) (S := []) m_X8_copyFrom [] 58 H
set_option maxRecDepth 100000 in
theorem g_X8_openWith {μ : Mm} {K : MV → Mm → Prop} {c0 : Nat} {l1 : Int32} (H : (s_X8_orderByNumbers [mO 7 c0] (mS (mS (mS μ c0 0 l1) c0 5 0) (c0 + 6) 0 0) (fun v1 μ1 => Tot e_X8_openWith K 24 [mO 7 c0, mI l1, mI 0] [] μ1))) : s_X8_openWith [mO 7 c0, mI l1] μ K := seg (pc := 0) (L := [mO 7 c0, mI l1, mU]) (S := []) m_X8_openWith [24, 56] 45 H
set_option maxRecDepth 100000 in
theorem g_X8_openWith_24 {μ : Mm} {K : MV → Mm → Prop} {c0 : Nat} {l1 : Int32} {l2 : Int32} (H : (if 6 ≤ l2 then Tot e_X8_openWith K 56 [mO 7 c0, mI l1, mI 0] [] μ else (s_X5_put [mA 6 (c0 + 3), mI l2, mI 0] μ (fun v1 μ1 => (s_X5_put [mA 6 (c0 + 4), mI l2, mI 0] μ1 (fun v2 μ2 => Tot e_X8_openWith K 24 [mO 7 c0, mI l1, mI (l2 + 1)] [] μ2)))))) : Tot e_X8_openWith K 24 [mO 7 c0, mI l1, mI l2] [] μ := seg (pc := 24) (L := [mO 7 c0, mI l1, mI l2]) (S := []) m_X8_openWith [24, 56] 45 H
set_option maxRecDepth 100000 in
theorem g_X8_openWith_56 {μ : Mm} {K : MV → Mm → Prop} {c0 : Nat} {l1 : Int32} {l2 : Int32} (H : (if 8 ≤ l2 then K mU μ else (s_X5_put [mA 8 (c0 + 5), mI l2, mI 0] μ (fun v1 μ1 => Tot e_X8_openWith K 56 [mO 7 c0, mI l1, mI (l2 + 1)] [] μ1)))) : Tot e_X8_openWith K 56 [mO 7 c0, mI l1, mI l2] [] μ := seg (pc := 56) (L := [mO 7 c0, mI l1, mI l2]) (S := []) m_X8_openWith [24, 56] 45 H
set_option maxRecDepth 100000 in
theorem g_X8_setting {μ : Mm} {K : MV → Mm → Prop} {c0 : Nat} {l1 : Int32} (H : (if l1 = 0 then K (mI (μ c0 1)) μ else (if l1 = 1 then K (mI (μ c0 2)) μ else (if l1 = 2 then K (mI (μ c0 3)) μ else K (mI (μ c0 4)) μ)))) : s_X8_setting [mO 7 c0, mI l1] μ K := seg (pc := 0) (L := [mO 7 c0, mI l1]) (S := []) m_X8_setting [] 17 H
set_option maxRecDepth 100000 in
theorem g_X8_putSetting {μ : Mm} {K : MV → Mm → Prop} {c0 : Nat} {l1 : Int32} {l2 : Int32} (H : (if l1 = 0 then K mU (mS μ c0 1 l2) else (if l1 = 1 then K mU (mS μ c0 2 l2) else (if l1 = 2 then K mU (mS μ c0 3 l2) else K mU (mS μ c0 4 l2))))) : s_X8_putSetting [mO 7 c0, mI l1, mI l2] μ K := seg (pc := 0) (L := [mO 7 c0, mI l1, mI l2]) (S := []) m_X8_putSetting [] 21 H
set_option maxRecDepth 100000 in
theorem g_X8_hasAct {μ : Mm} {K : MV → Mm → Prop} {c0 : Nat} {l1 : Int32} (H : (s_X9_within [mI l1, mI 0, mI ((μ c0 0) - 1)] μ (fun v1 μ1 => (zb (vI v1) ∧ K (mI (vI v1)) μ1)))) : s_X8_hasAct [mO 7 c0, mI l1] μ K := seg (pc := 0) (L := [mO 7 c0, mI l1]) (S := []) m_X8_hasAct [] 11 H
set_option maxRecDepth 100000 in
theorem g_X8_worthOfFirst {μ : Mm} {K : MV → Mm → Prop} {c0 : Nat} {l1 : Int32} {l2 : Int32} (H : Tot e_X8_worthOfFirst K 5 [mO 7 c0, mI l1, mI l2, mI 0, mI 0] [] μ) : s_X8_worthOfFirst [mO 7 c0, mI l1, mI l2] μ K := seg (pc := 0) (L := [mO 7 c0, mI l1, mI l2, mU, mU]) (S := []) m_X8_worthOfFirst [5] 21 H
set_option maxRecDepth 100000 in
theorem g_X8_worthOfFirst_5 {μ : Mm} {K : MV → Mm → Prop} {c0 : Nat} {l1 : Int32} {l2 : Int32} {l3 : Int32} {l4 : Int32} (H : (if l2 ≤ l4 then K (mI l3) μ else (s_X8_worthPlayed [mO 7 c0, mI l1, mI l4] μ (fun v1 μ1 => Tot e_X8_worthOfFirst K 5 [mO 7 c0, mI l1, mI l2, mI (l3 + (vI v1)), mI (l4 + 1)] [] μ1)))) : Tot e_X8_worthOfFirst K 5 [mO 7 c0, mI l1, mI l2, mI l3, mI l4] [] μ := seg (pc := 5) (L := [mO 7 c0, mI l1, mI l2, mI l3, mI l4]) (S := []) m_X8_worthOfFirst [5] 21 H
set_option maxRecDepth 100000 in
theorem g_X8_isAfter {μ : Mm} {K : MV → Mm → Prop} {c0 : Nat} {l1 : Int32} {l2 : Int32} (H : (s_X5_at [mA 6 (c0 + 4), mI l2] μ (fun v1 μ1 => (if (((vI v1) >>> (l1 &&& 31)) &&& 1) = 0 then (zb 0 ∧ K (mI 0) μ1) else (zb 1 ∧ K (mI 1) μ1))))) : s_X8_isAfter [mO 7 c0, mI l1, mI l2] μ K := seg (pc := 0) (L := [mO 7 c0, mI l1, mI l2]) (S := []) m_X8_isAfter [] 16 H
set_option maxRecDepth 100000 in
theorem g_X8_putAfter {μ : Mm} {K : MV → Mm → Prop} {c0 : Nat} {l1 : Int32} {l2 : Int32} (H : (s_X5_at [mA 6 (c0 + 4), mI l1] μ (fun v1 μ1 => Tot e_X8_putAfter K 16 [mO 7 c0, mI l1, mI l2, mI ((vI v1) ||| ((1 : Int32) <<< (l1 &&& 31))), mI 0] [] μ1))) : s_X8_putAfter [mO 7 c0, mI l1, mI l2] μ K := seg (pc := 0) (L := [mO 7 c0, mI l1, mI l2, mU, mU]) (S := []) m_X8_putAfter [16] 39 H
set_option maxRecDepth 100000 in
theorem g_X8_putAfter_16 {μ : Mm} {K : MV → Mm → Prop} {c0 : Nat} {l1 : Int32} {l2 : Int32} {l3 : Int32} {l4 : Int32} (H : (if (μ c0 0) ≤ l4 then K mU μ else (if l4 = l2 then (s_X5_at [mA 6 (c0 + 4), mI l4] μ (fun v1 μ1 => (s_X5_put [mA 6 (c0 + 4), mI l4, mI ((vI v1) ||| l3)] μ1 (fun v2 μ2 => Tot e_X8_putAfter K 16 [mO 7 c0, mI l1, mI l2, mI l3, mI (l4 + 1)] [] μ2)))) else (s_X8_isAfter [mO 7 c0, mI l2, mI l4] μ (fun v1 μ1 => (if (vI v1) = 0 then Tot e_X8_putAfter K 16 [mO 7 c0, mI l1, mI l2, mI l3, mI (l4 + 1)] [] μ1 else (s_X5_at [mA 6 (c0 + 4), mI l4] μ1 (fun v2 μ2 => (s_X5_put [mA 6 (c0 + 4), mI l4, mI ((vI v2) ||| l3)] μ2 (fun v3 μ3 => Tot e_X8_putAfter K 16 [mO 7 c0, mI l1, mI l2, mI l3, mI (l4 + 1)] [] μ3)))))))))) : Tot e_X8_putAfter K 16 [mO 7 c0, mI l1, mI l2, mI l3, mI l4] [] μ := seg (pc := 16) (L := [mO 7 c0, mI l1, mI l2, mI l3, mI l4]) (S := []) m_X8_putAfter [16] 39 H
set_option maxRecDepth 100000 in
theorem g_X8_befriend {μ : Mm} {K : MV → Mm → Prop} {c0 : Nat} {l1 : Int32} {l2 : Int32} (H : (s_X5_at [mA 8 (c0 + 5), mI l1] μ (fun v1 μ1 => (s_X5_put [mA 8 (c0 + 5), mI l1, mI ((vI v1) ||| ((1 : Int32) <<< (l2 &&& 31)))] μ1 (fun v2 μ2 => K mU μ2))))) : s_X8_befriend [mO 7 c0, mI l1, mI l2] μ K := seg (pc := 0) (L := [mO 7 c0, mI l1, mI l2]) (S := []) m_X8_befriend [] 16 H
set_option maxRecDepth 100000 in
theorem g_X9_acts {μ : Mm} {K : MV → Mm → Prop} {l1 : Int32} (H : (s_X9_within [mI l1, mI 1, mI 6] μ (fun v1 μ1 => (if (vI v1) = 0 then K (mI ((-2))) μ1 else (s_X8_openWith [mO 7 3, mI l1] μ1 (fun v2 μ2 => K (mI (μ1 3 0)) μ2)))))) : s_X9_acts [mO 8 0, mI l1] μ K := seg (pc := 0) (L := [mO 8 0, mI l1, mU]) (S := []) m_X9_acts [] 20 H
set_option maxRecDepth 100000 in
theorem g_X9_settingLimit {μ : Mm} {K : MV → Mm → Prop} {l0 : Int32} (H : (if l0 = 1 then K (mI 9) μ else (if l0 = 2 then K (mI 1) μ else K (mI 30) μ))) : s_X9_settingLimit [mI l0] μ K := seg (pc := 0) (L := [mI l0]) (S := []) m_X9_settingLimit [] 11 H
set_option maxRecDepth 100000 in
theorem g_X9_set {μ : Mm} {K : MV → Mm → Prop} {l1 : Int32} {l2 : Int32} (H : (s_X9_within [mI l1, mI 0, mI 3] μ (fun v1 μ1 => (if (vI v1) = 0 then K (mI ((-2))) μ1 else (s_X9_settingLimit [mI l1] μ1 (fun v2 μ2 => (s_X9_within [mI l2, mI 0, mI (vI v2)] μ2 (fun v3 μ3 => (if (vI v3) = 0 then K (mI ((-2))) μ3 else (s_X8_setting [mO 7 3, mI l1] μ3 (fun v4 μ4 => (s_X8_putSetting [mO 7 3, mI l1, mI l2] μ4 (fun v5 μ5 => K (mI (vI v4)) μ5))))))))))))) : s_X9_set [mO 8 0, mI l1, mI l2] μ K := seg (pc := 0) (L := [mO 8 0, mI l1, mI l2, mU]) (S := []) m_X9_set [] 28 H
set_option maxRecDepth 100000 in
theorem g_X9_say {μ : Mm} {K : MV → Mm → Prop} {l1 : Int32} (H : (s_X9_within [mI l1, mI 33, mI 126] μ (fun v1 μ1 => (if (vI v1) = 0 then K (mI ((-2))) μ1 else (s_X3_add [mO 3 1, mI l1] μ1 (fun v2 μ2 => (if (vI v2) = 0 then K (mI ((-4))) μ2 else K (mI (μ2 1 1)) μ2))))))) : s_X9_say [mO 8 0, mI l1] μ K := seg (pc := 0) (L := [mO 8 0, mI l1]) (S := []) m_X9_say [] 21 H
set_option maxRecDepth 100000 in
theorem g_X9_wipe {μ : Mm} {K : MV → Mm → Prop}  (H : K (mI (μ 1 1)) (mS μ 1 1 0)) : s_X9_wipe [mO 8 0] μ K := seg (pc := 0) (L := [mO 8 0, mU]) (S := []) m_X9_wipe [] 13 H
set_option maxRecDepth 100000 in
theorem g_X9_fault {μ : Mm} {K : MV → Mm → Prop} {l1 : Int32} (H : (s_X9_within [mI l1, mI 0, mI 1] μ (fun v1 μ1 => (if (vI v1) = 0 then K (mI ((-2))) μ1 else (if l1 = 0 then (s_X3_guestFault [mO 3 1, mI (μ1 3 0)] μ1 (fun v2 μ2 => K (mI (vI v2)) μ2)) else (s_X3_orderFault [mO 3 1, mI (μ1 3 0)] μ1 (fun v2 μ2 => K (mI (vI v2)) μ2))))))) : s_X9_fault [mO 8 0, mI l1] μ K := seg (pc := 0) (L := [mO 8 0, mI l1]) (S := []) m_X9_fault [] 26 H
set_option maxRecDepth 100000 in
theorem g_X9_guest {μ : Mm} {K : MV → Mm → Prop} {l1 : Int32} (H : (s_X9_within [mI l1, mI 0, mI 7] μ (fun v1 μ1 => (if (vI v1) = 0 then K (mI ((-1))) μ1 else (s_X3_guestFault [mO 3 1, mI (μ1 3 0)] μ1 (fun v2 μ2 => (if (vI v2) = ((-6)) then Tot e_X9_guest K 36 [mO 8 0, mI l1, mI 0] [] μ2 else K (mI ((-5))) μ2))))))) : s_X9_guest [mO 8 0, mI l1] μ K := seg (pc := 0) (L := [mO 8 0, mI l1, mU]) (S := []) m_X9_guest [36] 57 H
set_option maxRecDepth 100000 in
theorem g_X9_guest_36 {μ : Mm} {K : MV → Mm → Prop} {l1 : Int32} {l2 : Int32} (H : (if (μ 3 0) ≤ l2 then (s_J6_bitCount [mI ((mS (mS μ 3 5 ((μ 3 5) ||| ((1 : Int32) <<< (l1 &&& 31)))) 1 1 0) 3 5)] (mS (mS μ 3 5 ((μ 3 5) ||| ((1 : Int32) <<< (l1 &&& 31)))) 1 1 0) (fun v1 μ1 => K (mI (vI v1)) μ1)) else (s_X3_sign [mO 3 1, mI l2] μ (fun v1 μ1 => (s_X3_worthTold [mI (vI v1)] μ1 (fun v2 μ2 => (s_X8_putWorth [mO 7 3, mI l1, mI l2, mI (vI v2)] μ2 (fun v3 μ3 => Tot e_X9_guest K 36 [mO 8 0, mI l1, mI (l2 + 1)] [] μ3)))))))) : Tot e_X9_guest K 36 [mO 8 0, mI l1, mI l2] [] μ := seg (pc := 36) (L := [mO 8 0, mI l1, mI l2]) (S := []) m_X9_guest [36] 57 H
set_option maxRecDepth 100000 in
theorem g_X9_leave {μ : Mm} {K : MV → Mm → Prop} {l1 : Int32} (H : (s_X8_comes [mO 7 3, mI l1] μ (fun v1 μ1 => (if (vI v1) = 0 then K (mI ((-1))) μ1 else (s_J6_bitCount [mI ((mS μ1 3 5 ((μ1 3 5) &&& (((1 : Int32) <<< (l1 &&& 31)) ^^^ ((-1))))) 3 5)] (mS μ1 3 5 ((μ1 3 5) &&& (((1 : Int32) <<< (l1 &&& 31)) ^^^ ((-1))))) (fun v2 μ2 => K (mI (vI v2)) μ2)))))) : s_X9_leave [mO 8 0, mI l1] μ K := seg (pc := 0) (L := [mO 8 0, mI l1]) (S := []) m_X9_leave [] 26 H
set_option maxRecDepth 100000 in
theorem g_X9_worth {μ : Mm} {K : MV → Mm → Prop} {l1 : Int32} {l2 : Int32} (H : (s_X8_comes [mO 7 3, mI l1] μ (fun v1 μ1 => (if (vI v1) = 0 then K (mI ((-1))) μ1 else (s_X8_hasAct [mO 7 3, mI l2] μ1 (fun v2 μ2 => (if (vI v2) = 0 then K (mI ((-1))) μ2 else (s_X8_worthTo [mO 7 3, mI l1, mI l2] μ2 (fun v3 μ3 => K (mI ((vI v3) - ((-10)))) μ3))))))))) : s_X9_worth [mO 8 0, mI l1, mI l2] μ K := seg (pc := 0) (L := [mO 8 0, mI l1, mI l2]) (S := []) m_X9_worth [] 23 H
set_option maxRecDepth 100000 in
theorem g_X9_play {μ : Mm} {K : MV → Mm → Prop}  (H : (s_X3_orderFault [mO 3 1, mI (μ 3 0)] μ (fun v1 μ1 => (if (vI v1) = ((-6)) then Tot e_X9_play K 24 [mO 8 0, mI 0] [] μ1 else K (mI ((-5))) μ1)))) : s_X9_play [mO 8 0] μ K := seg (pc := 0) (L := [mO 8 0, mU]) (S := []) m_X9_play [24] 38 H
set_option maxRecDepth 100000 in
theorem g_X9_play_24 {μ : Mm} {K : MV → Mm → Prop} {l1 : Int32} (H : (if (μ 3 0) ≤ l1 then K (mI 1) (mS μ 1 1 0) else (s_X3_sign [mO 3 1, mI l1] μ (fun v1 μ1 => (s_X3_actTold [mI (vI v1)] μ1 (fun v2 μ2 => (s_X5_put [mA 6 4, mI l1, mI (vI v2)] μ2 (fun v3 μ3 => Tot e_X9_play K 24 [mO 8 0, mI (l1 + 1)] [] μ3)))))))) : Tot e_X9_play K 24 [mO 8 0, mI l1] [] μ := seg (pc := 24) (L := [mO 8 0, mI l1]) (S := []) m_X9_play [24] 38 H
set_option maxRecDepth 100000 in
theorem g_X9_leaves {μ : Mm} {K : MV → Mm → Prop} {l1 : Int32} {l2 : Int32} (H : (s_X8_comes [mO 7 3, mI l1] μ (fun v1 μ1 => (if (vI v1) = 0 then K (mI ((-1))) μ1 else (s_X9_within [mI l2, mI 0, mI 2] μ1 (fun v2 μ2 => (if (vI v2) = 0 then K (mI ((-2))) μ2 else (s_X8_behind [mO 7 3, mI l1] μ2 (fun v3 μ3 => (s_X8_price [mO 7 3, mI (μ3 3 1), mI (vI v3)] μ3 (fun v4 μ4 => (if l2 = 0 then K (mI (vI v3)) μ4 else (if l2 = 1 then K (mI (vI v4)) μ4 else (s_X8_worthOfFirst [mO 7 3, mI l1, mI (vI v3)] μ4 (fun v5 μ5 => K (mI ((vI v5) - (vI v4))) μ5))))))))))))))) : s_X9_leaves [mO 8 0, mI l1, mI l2] μ K := seg (pc := 0) (L := [mO 8 0, mI l1, mI l2, mU, mU]) (S := []) m_X9_leaves [] 44 H
set_option maxRecDepth 100000 in
theorem g_X9_takings {μ : Mm} {K : MV → Mm → Prop}  (H : (s_X8_allPay [mO 7 3] μ (fun v1 μ1 => K (mI (vI v1)) μ1))) : s_X9_takings [mO 8 0] μ K := seg (pc := 0) (L := [mO 8 0]) (S := []) m_X9_takings [] 7 H
set_option maxRecDepth 100000 in
theorem g_X9_stayed {μ : Mm} {K : MV → Mm → Prop} {l1 : Int32} (H : (s_X8_hasAct [mO 7 3, mI l1] μ (fun v1 μ1 => (if (vI v1) = 0 then K (mI ((-1))) μ1 else Tot e_X9_stayed K 17 [mO 8 0, mI l1, mI 0, mI 0] [] μ1)))) : s_X9_stayed [mO 8 0, mI l1] μ K := seg (pc := 0) (L := [mO 8 0, mI l1, mU, mU]) (S := []) m_X9_stayed [17] 33 H
set_option maxRecDepth 100000 in
theorem g_X9_stayed_17 {μ : Mm} {K : MV → Mm → Prop} {l1 : Int32} {l2 : Int32} {l3 : Int32} (H : (if 8 ≤ l3 then K (mI l2) μ else (s_X8_comes [mO 7 3, mI l3] μ (fun v1 μ1 => (if (vI v1) = 0 then Tot e_X9_stayed K 17 [mO 8 0, mI l1, mI l2, mI (l3 + 1)] [] μ1 else (s_X8_behind [mO 7 3, mI l3] μ1 (fun v2 μ2 => (if (vI v2) ≤ l1 then Tot e_X9_stayed K 17 [mO 8 0, mI l1, mI l2, mI (l3 + 1)] [] μ2 else Tot e_X9_stayed K 17 [mO 8 0, mI l1, mI (l2 + 1), mI (l3 + 1)] [] μ2)))))))) : Tot e_X9_stayed K 17 [mO 8 0, mI l1, mI l2, mI l3] [] μ := seg (pc := 17) (L := [mO 8 0, mI l1, mI l2, mI l3]) (S := []) m_X9_stayed [17] 33 H
set_option maxRecDepth 100000 in
theorem g_X9_tried {μ : Mm} {K : MV → Mm → Prop}  (H : (s_X8_copyFrom [mO 7 13, mO 7 3] μ (fun v1 μ1 => K (mO 7 13) μ1))) : s_X9_tried [mO 8 0] μ K := seg (pc := 0) (L := [mO 8 0]) (S := []) m_X9_tried [] 11 H
set_option maxRecDepth 100000 in
theorem g_X9_fares {μ : Mm} {K : MV → Mm → Prop} {l1 : Int32} (H : (s_X9_within [mI l1, mI 0, mI 2] μ (fun v1 μ1 => (if (vI v1) = 0 then K (mI ((-2))) μ1 else (s_X9_tried [mO 8 0] μ1 (fun v2 μ2 => (s_X4_faresForMost [mO 7 (vC v2), mI l1] μ2 (fun v3 μ3 => K (mI (vI v3)) μ3)))))))) : s_X9_fares [mO 8 0, mI l1] μ K := seg (pc := 0) (L := [mO 8 0, mI l1]) (S := []) m_X9_fares [] 15 H
set_option maxRecDepth 100000 in
theorem g_X9_must {μ : Mm} {K : MV → Mm → Prop} {l1 : Int32} {l2 : Int32} (H : (s_X8_hasAct [mO 7 3, mI l1] μ (fun v1 μ1 => (if (vI v1) = 0 then K (mI ((-1))) μ1 else (s_X8_hasAct [mO 7 3, mI l2] μ1 (fun v2 μ2 => (if (vI v2) = 0 then K (mI ((-1))) μ2 else (if l1 = l2 then K (mI ((-1))) μ2 else (s_X8_isAfter [mO 7 3, mI l1, mI l2] μ2 (fun v3 μ3 => (if (vI v3) = 0 then (s_X8_putAfter [mO 7 3, mI l2, mI l1] μ3 (fun v4 μ4 => K (mI 1) μ4)) else K (mI ((-3))) μ3))))))))))) : s_X9_must [mO 8 0, mI l1, mI l2] μ K := seg (pc := 0) (L := [mO 8 0, mI l1, mI l2]) (S := []) m_X9_must [] 33 H
set_option maxRecDepth 100000 in
theorem g_X9_order {μ : Mm} {K : MV → Mm → Prop} {l1 : Int32} (H : (s_X9_within [mI l1, mI ((-1)), mI ((μ 3 0) - 1)] μ (fun v1 μ1 => (if (vI v1) = 0 then K (mI ((-6))) μ1 else (s_X9_tried [mO 8 0] μ1 (fun v2 μ2 => (s_X4_orderForMost [mO 4 45, mO 7 (vC v2), mI l1] μ2 (fun v3 μ3 => K (mI (vI v3)) μ3)))))))) : s_X9_order [mO 8 0, mI l1] μ K := seg (pc := 0) (L := [mO 8 0, mI l1]) (S := []) m_X9_order [] 21 H
set_option maxRecDepth 100000 in
theorem g_X9_claque {μ : Mm} {K : MV → Mm → Prop} {l1 : Int32} {l2 : Int32} (H : (s_X9_within [mI l1, mI 1, mI 25] μ (fun v1 μ1 => (if (vI v1) = 0 then K (mI ((-2))) μ1 else (s_X9_within [mI l2, mI 0, mI 1] μ1 (fun v2 μ2 => (if (vI v2) = 0 then K (mI ((-2))) μ2 else (s_X9_tried [mO 8 0] μ2 (fun v3 μ3 => (s_X4_actForClaque [mO 7 (vC v3), mI l1, mI l2] μ3 (fun v4 μ4 => K (mI (vI v4)) μ4))))))))))) : s_X9_claque [mO 8 0, mI l1, mI l2] μ K := seg (pc := 0) (L := [mO 8 0, mI l1, mI l2]) (S := []) m_X9_claque [] 21 H
set_option maxRecDepth 100000 in
theorem g_X9_friends {μ : Mm} {K : MV → Mm → Prop} {l1 : Int32} {l2 : Int32} (H : (s_X9_within [mI l1, mI 0, mI 7] μ (fun v1 μ1 => (if (vI v1) = 0 then (if (0 : Int32) = 0 then K (mI ((-1))) μ1 else (if l1 = l2 then K (mI ((-1))) μ1 else (s_X8_befriend [mO 7 3, mI l1, mI l2] μ1 (fun v2 μ2 => (s_X8_befriend [mO 7 3, mI l2, mI l1] μ2 (fun v3 μ3 => K (mI 1) μ3)))))) else (s_X9_within [mI l2, mI 0, mI 7] μ1 (fun v2 μ2 => (if (vI v2) = 0 then (if (0 : Int32) = 0 then K (mI ((-1))) μ2 else (if l1 = l2 then K (mI ((-1))) μ2 else (s_X8_befriend [mO 7 3, mI l1, mI l2] μ2 (fun v3 μ3 => (s_X8_befriend [mO 7 3, mI l2, mI l1] μ3 (fun v4 μ4 => K (mI 1) μ4)))))) else (if (1 : Int32) = 0 then K (mI ((-1))) μ2 else (if l1 = l2 then K (mI ((-1))) μ2 else (s_X8_befriend [mO 7 3, mI l1, mI l2] μ2 (fun v3 μ3 => (s_X8_befriend [mO 7 3, mI l2, mI l1] μ3 (fun v4 μ4 => K (mI 1) μ4))))))))))))) : s_X9_friends [mO 8 0, mI l1, mI l2] μ K := seg (pc := 0) (L := [mO 8 0, mI l1, mI l2, mU]) (S := []) m_X9_friends [] 36 H
set_option maxRecDepth 100000 in
theorem g_X9_seating {μ : Mm} {K : MV → Mm → Prop} {l1 : Int32} (H : (s_X6_seated [mO 5 47, mO 7 3, mI l1] μ (fun v1 μ1 => K (mI (vI v1)) μ1))) : s_X9_seating [mO 8 0, mI l1] μ K := seg (pc := 0) (L := [mO 8 0, mI l1]) (S := []) m_X9_seating [] 10 H
set_option maxRecDepth 100000 in
theorem g_X9_other {μ : Mm} {K : MV → Mm → Prop} {l1 : Int32} {l2 : Int32} (H : (s_X8_hasAct [mO 7 3, mI l1] μ (fun v1 μ1 => (if (vI v1) = 0 then K (mI ((-1))) μ1 else (s_X9_within [mI l2, mI 0, mI 25] μ1 (fun v2 μ2 => (if (vI v2) = 0 then K (mI ((-2))) μ2 else (s_X5_at [mA 6 6, mI l1] μ2 (fun v3 μ3 => (s_X5_put [mA 6 6, mI l1, mI l2] μ3 (fun v4 μ4 => K (mI (vI v3)) μ4))))))))))) : s_X9_other [mO 8 0, mI l1, mI l2] μ K := seg (pc := 0) (L := [mO 8 0, mI l1, mI l2, mU]) (S := []) m_X9_other [] 31 H
set_option maxRecDepth 100000 in
theorem g_X9_over {μ : Mm} {K : MV → Mm → Prop} {l1 : Int32} {l2 : Int32} (H : (s_X8_comes [mO 7 3, mI l1] μ (fun v1 μ1 => (if (vI v1) = 0 then K (mI ((-1))) μ1 else (s_X9_within [mI l2, mI 0, mI 1] μ1 (fun v2 μ2 => (if (vI v2) = 0 then K (mI ((-2))) μ2 else (s_X1_send [mO 1 50, mO 7 3, mI l1] μ2 (fun v3 μ3 => (if l2 = 0 then K (mI (μ3 50 0)) μ3 else K (mI (μ3 50 1)) μ3)))))))))) : s_X9_over [mO 8 0, mI l1, mI l2] μ K := seg (pc := 0) (L := [mO 8 0, mI l1, mI l2]) (S := []) m_X9_over [] 33 H
set_option maxRecDepth 100000 in
theorem g_X9_both {μ : Mm} {K : MV → Mm → Prop} {l1 : Int32} (H : (s_X9_within [mI l1, mI 0, mI 1] μ (fun v1 μ1 => (if (vI v1) = 0 then K (mI ((-2))) μ1 else (s_X1_sendAll [mO 1 50, mO 7 3] μ1 (fun v2 μ2 => (if l1 = 0 then K (mI (μ2 50 2)) μ2 else K (mI (μ2 50 3)) μ2))))))) : s_X9_both [mO 8 0, mI l1] μ K := seg (pc := 0) (L := [mO 8 0, mI l1]) (S := []) m_X9_both [] 25 H
set_option maxRecDepth 100000 in
theorem g_X9_rests {μ : Mm} {K : MV → Mm → Prop} {l1 : Int32} (H : (s_X9_tried [mO 8 0] μ (fun v1 μ1 => (s_X1_restingBases [mO 1 50, mO 7 (vC v1), mI l1] μ1 (fun v2 μ2 => K (mI (vI v2)) μ2))))) : s_X9_rests [mO 8 0, mI l1] μ K := seg (pc := 0) (L := [mO 8 0, mI l1]) (S := []) m_X9_rests [] 10 H
set_option maxRecDepth 100000 in
theorem g_X9_seen {μ : Mm} {K : MV → Mm → Prop} {l1 : Int32} {l2 : Int32} {l3 : Int32} (H : (s_X8_comes [mO 7 3, mI l1] μ (fun v1 μ1 => (if (vI v1) = 0 then K (mI ((-1))) μ1 else (s_X9_within [mI l2, mI 0, mI (μ1 3 0)] μ1 (fun v2 μ2 => (if (vI v2) = 0 then K (mI ((-2))) μ2 else (s_X9_within [mI l3, mI 0, mI 30] μ2 (fun v3 μ3 => (if (vI v3) = 0 then K (mI ((-2))) μ3 else (s_X7_add [mO 6 9, mI l1, mI l2, mI l3] μ3 (fun v4 μ4 => (if (vI v4) = 0 then K (mI ((-4))) μ4 else K (mI (μ4 9 0)) μ4))))))))))))) : s_X9_seen [mO 8 0, mI l1, mI l2, mI l3] μ K := seg (pc := 0) (L := [mO 8 0, mI l1, mI l2, mI l3]) (S := []) m_X9_seen [] 39 H
set_option maxRecDepth 100000 in
theorem g_X9_forget {μ : Mm} {K : MV → Mm → Prop}  (H : K (mI (μ 9 0)) (mS μ 9 0 0)) : s_X9_forget [mO 8 0] μ K := seg (pc := 0) (L := [mO 8 0, mU]) (S := []) m_X9_forget [] 15 H
set_option maxRecDepth 100000 in
theorem g_X9_fits {μ : Mm} {K : MV → Mm → Prop} {l1 : Int32} {l2 : Int32} {l3 : Int32} (H : (s_X8_comes [mO 7 3, mI l1] μ (fun v1 μ1 => (if (vI v1) = 0 then K (mI ((-1))) μ1 else (s_X8_hasAct [mO 7 3, mI l2] μ1 (fun v2 μ2 => (if (vI v2) = 0 then K (mI ((-1))) μ2 else (s_X9_within [mI l3, mI 0, mI 2] μ2 (fun v3 μ3 => (if (vI v3) = 0 then K (mI ((-2))) μ3 else (s_X9_tried [mO 8 0] μ3 (fun v4 μ4 => (s_X7_worthsThatFit [mO 7 (vC v4), mI l1, mI l2, mI l3] μ4 (fun v5 μ5 => K (mI (vI v5)) μ5)))))))))))))) : s_X9_fits [mO 8 0, mI l1, mI l2, mI l3] μ K := seg (pc := 0) (L := [mO 8 0, mI l1, mI l2, mI l3]) (S := []) m_X9_fits [] 29 H
set_option maxRecDepth 100000 in
theorem g_X9_odds {μ : Mm} {K : MV → Mm → Prop} {l1 : Int32} {l2 : Int32} {l3 : Int32} (H : (s_X9_within [mI l1, mI 0, mI 9999] μ (fun v1 μ1 => (if (vI v1) = 0 then K (mJ ((-1000000000000000002))) μ1 else (s_X9_within [mI l2, mI 0, mI 10] μ1 (fun v2 μ2 => (if (vI v2) = 0 then K (mJ ((-1000000000000000002))) μ2 else (s_X9_within [mI l3, mI 0, mI 1] μ2 (fun v3 μ3 => (if (vI v3) = 0 then K (mJ ((-1000000000000000002))) μ3 else (s_X0_comesIn [mO 0 53, mO 7 3, mI l1, mI l2, mI l3] μ3 (fun v4 μ4 => K (mJ (vJ v4)) μ4)))))))))))) : s_X9_odds [mO 8 0, mI l1, mI l2, mI l3] μ K := seg (pc := 0) (L := [mO 8 0, mI l1, mI l2, mI l3]) (S := []) m_X9_odds [] 29 H
set_option maxRecDepth 100000 in
theorem g_X9_year {μ : Mm} {K : MV → Mm → Prop} {l1 : Int32} {l2 : Int32} {l3 : Int32} (H : (s_X9_within [mI l1, mI 0, mI 9999] μ (fun v1 μ1 => (if (vI v1) = 0 then K (mI ((-2))) μ1 else (s_X9_within [mI l2, mI 1, mI 99] μ1 (fun v2 μ2 => (if (vI v2) = 0 then K (mI ((-2))) μ2 else (s_X9_within [mI l3, mI 0, mI 1] μ2 (fun v3 μ3 => (if (vI v3) = 0 then K (mI ((-2))) μ3 else (s_X0_evenings [mO 0 53, mO 7 3, mI l1, mI l2, mI l3] μ3 (fun v4 μ4 => K (mI (vI v4)) μ4)))))))))))) : s_X9_year [mO 8 0, mI l1, mI l2, mI l3] μ K := seg (pc := 0) (L := [mO 8 0, mI l1, mI l2, mI l3]) (S := []) m_X9_year [] 29 H
set_option maxRecDepth 100000 in
theorem g_X9_imageOf {μ : Mm} {K : MV → Mm → Prop} {l1 : Int32} (H : (if l1 = 0 then K (mO 2 23) μ else K (mO 2 34) μ)) : s_X9_imageOf [mO 8 0, mI l1] μ K := seg (pc := 0) (L := [mO 8 0, mI l1]) (S := []) m_X9_imageOf [] 11 H
set_option maxRecDepth 100000 in
theorem g_X9_image {μ : Mm} {K : MV → Mm → Prop} {l1 : Int32} (H : (s_X9_within [mI l1, mI 0, mI 1] μ (fun v1 μ1 => (if (vI v1) = 0 then K (mI ((-2))) μ1 else (s_X9_imageOf [mO 8 0, mI l1] μ1 (fun v2 μ2 => (s_X8_copyFrom [mO 7 (vC v2 + 1), mO 7 3] μ2 (fun v3 μ3 => (zb 1 ∧ K (mI 1) (mS μ3 (vC v2) 1 1)))))))))) : s_X9_image [mO 8 0, mI l1] μ K := seg (pc := 0) (L := [mO 8 0, mI l1, mU]) (S := []) m_X9_image [] 24 H
set_option maxRecDepth 100000 in
theorem g_X9_restore {μ : Mm} {K : MV → Mm → Prop} {l1 : Int32} (H : (s_X9_within [mI l1, mI 0, mI 1] μ (fun v1 μ1 => (if (vI v1) = 0 then K (mI ((-2))) μ1 else (s_X9_imageOf [mO 8 0, mI l1] μ1 (fun v2 μ2 => (if (μ2 (vC v2) 1) = 0 then K (mI ((-3))) μ2 else (s_X8_copyFrom [mO 7 3, mO 7 (vC v2 + 1)] μ2 (fun v3 μ3 => K (mI 1) μ3))))))))) : s_X9_restore [mO 8 0, mI l1] μ K := seg (pc := 0) (L := [mO 8 0, mI l1, mU]) (S := []) m_X9_restore [] 26 H
set_option maxRecDepth 100000 in
theorem g_X9_told {μ : Mm} {K : MV → Mm → Prop} {l1 : Int32} (H : (s_X9_within [mI l1, mI 10, mI (9 + (μ 3 0))] μ (fun v1 μ1 => (if (vI v1) = 0 then (s_X9_within [mI l1, mI 20, mI (19 + (μ1 3 0))] μ1 (fun v2 μ2 => (if (vI v2) = 0 then (if l1 = 0 then K (mI (μ2 1 1)) μ2 else (if l1 = 1 then K (mI (μ2 3 0)) μ2 else (if l1 = 2 then K (mI (μ2 3 5)) μ2 else (if l1 = 3 then K (mI (μ2 3 1)) μ2 else (if l1 = 4 then K (mI (μ2 3 2)) μ2 else (if l1 = 5 then K (mI (μ2 3 3)) μ2 else (if l1 = 6 then K (mI (μ2 3 4)) μ2 else (if l1 = 7 then K (mI (μ2 9 0)) μ2 else K (mI ((-2))) μ2)))))))) else (s_X5_at [mA 6 6, mI (l1 - 20)] μ2 (fun v3 μ3 => K (mI (vI v3)) μ3))))) else (s_X5_at [mA 6 4, mI (l1 - 10)] μ1 (fun v2 μ2 => K (mI (vI v2)) μ2)))))) : s_X9_told [mO 8 0, mI l1] μ K := seg (pc := 0) (L := [mO 8 0, mI l1]) (S := []) m_X9_told [] 74 H
end
section
/-! ===== printed by program: what each stretch of code asks ===== -/
set_option maxRecDepth 100000 in
theorem g_X10_plain {μ : Mm} {K : MV → Mm → Prop}  (H : Tot e_X10_plain K 12 [mO 9 55, mI 0] [] (mS (mS μ 55 1 0) 55 11 0)) : s_X10_plain [mO 9 55] μ K := seg (pc := 0) (L := [mO 9 55, mU]) (S := []) m_X10_plain [12, 47] 44 H
set_option maxRecDepth 100000 in
theorem g_X10_plain_12 {μ : Mm} {K : MV → Mm → Prop} {l1 : Int32} (H : (if 6 ≤ l1 then Tot e_X10_plain K 47 [mO 9 55, mI 0] [] μ else (vi l1 6 ∧ (vi l1 6 ∧ (vi l1 6 ∧ Tot e_X10_plain K 12 [mO 9 55, mI (l1 + 1)] [] (mS (mS (mS μ 57 l1.toNatClampNeg l1) 58 l1.toNatClampNeg 0) 59 l1.toNatClampNeg 0)))))) : Tot e_X10_plain K 12 [mO 9 55, mI l1] [] μ := seg (pc := 12) (L := [mO 9 55, mI l1]) (S := []) m_X10_plain [12, 47] 44 H
set_option maxRecDepth 100000 in
theorem g_X10_plain_47 {μ : Mm} {K : MV → Mm → Prop} {l1 : Int32} (H : (if 8 ≤ l1 then K mU μ else (vi l1 8 ∧ Tot e_X10_plain K 47 [mO 9 55, mI (l1 + 1)] [] (mS μ 60 l1.toNatClampNeg 0)))) : Tot e_X10_plain K 47 [mO 9 55, mI l1] [] μ := seg (pc := 47) (L := [mO 9 55, mI l1]) (S := []) m_X10_plain [12, 47] 44 H
set_option maxRecDepth 100000 in
theorem g_X10_in {μ : Mm} {K : MV → Mm → Prop} {l0 : Int32} {l1 : Int32} {l2 : Int32} (H : (if l0 < l1 then (zb 0 ∧ K (mI 0) μ) else (if l2 < l0 then (zb 0 ∧ K (mI 0) μ) else (zb 1 ∧ K (mI 1) μ)))) : s_X10_in [mI l0, mI l1, mI l2] μ K := seg (pc := 0) (L := [mI l0, mI l1, mI l2]) (S := []) m_X10_in [] 13 H
set_option maxRecDepth 100000 in
theorem g_X10_has {μ : Mm} {K : MV → Mm → Prop} {l0 : Int32} {l1 : Int32} (H : (if ((l0 >>> (l1 &&& 31)) &&& 1) = 1 then (zb 1 ∧ K (mI 1) μ) else (zb 0 ∧ K (mI 0) μ))) : s_X10_has [mI l0, mI l1] μ K := seg (pc := 0) (L := [mI l0, mI l1]) (S := []) m_X10_has [] 14 H
set_option maxRecDepth 100000 in
theorem g_X10_bits {μ : Mm} {K : MV → Mm → Prop} {l0 : Int32} (H : Tot e_X10_bits K 4 [mI l0, mI 0, mI 0] [] μ) : s_X10_bits [mI l0] μ K := seg (pc := 0) (L := [mI l0, mU, mU]) (S := []) m_X10_bits [4] 22 H
set_option maxRecDepth 100000 in
theorem g_X10_bits_4 {μ : Mm} {K : MV → Mm → Prop} {l0 : Int32} {l1 : Int32} {l2 : Int32} (H : (if 8 ≤ l2 then K (mI l1) μ else Tot e_X10_bits K 4 [mI l0, mI (l1 + ((l0 >>> (l2 &&& 31)) &&& 1)), mI (l2 + 1)] [] μ)) : Tot e_X10_bits K 4 [mI l0, mI l1, mI l2] [] μ := seg (pc := 4) (L := [mI l0, mI l1, mI l2]) (S := []) m_X10_bits [4] 22 H
set_option maxRecDepth 100000 in
theorem g_X10_isAct {μ : Mm} {K : MV → Mm → Prop} {l1 : Int32} (H : (s_X10_in [mI l1, mI 0, mI ((μ 55 0) - 1)] μ (fun v1 μ1 => (zb (vI v1) ∧ K (mI (vI v1)) μ1)))) : s_X10_isAct [mO 9 55, mI l1] μ K := seg (pc := 0) (L := [mO 9 55, mI l1]) (S := []) m_X10_isAct [] 11 H
set_option maxRecDepth 100000 in
theorem g_X10_comes {μ : Mm} {K : MV → Mm → Prop} {l1 : Int32} (H : (s_X10_in [mI l1, mI 0, mI 7] μ (fun v1 μ1 => (if (vI v1) = 0 then (zb 0 ∧ K (mI 0) μ1) else (s_X10_has [mI (μ1 55 1), mI l1] μ1 (fun v2 μ2 => (if (vI v2) = 0 then (zb 0 ∧ K (mI 0) μ2) else (zb 1 ∧ K (mI 1) μ2)))))))) : s_X10_comes [mO 9 55, mI l1] μ K := seg (pc := 0) (L := [mO 9 55, mI l1]) (S := []) m_X10_comes [] 17 H
set_option maxRecDepth 100000 in
theorem g_X10_acts {μ : Mm} {K : MV → Mm → Prop} {l1 : Int32} (H : (s_X10_in [mI l1, mI 1, mI 6] μ (fun v1 μ1 => (if (vI v1) = 0 then K (mI ((-2))) μ1 else (s_X10_plain [mO 9 55] (mS μ1 55 0 l1) (fun v2 μ2 => K (mI (μ1 55 0)) μ2)))))) : s_X10_acts [mO 9 55, mI l1] μ K := seg (pc := 0) (L := [mO 9 55, mI l1, mU]) (S := []) m_X10_acts [] 20 H
set_option maxRecDepth 100000 in
theorem g_X10_set {μ : Mm} {K : MV → Mm → Prop} {l1 : Int32} {l2 : Int32} (H : (s_X10_in [mI l1, mI 0, mI 3] μ (fun v1 μ1 => (if (vI v1) = 0 then K (mI ((-2))) μ1 else (if l1 = 1 then (s_X10_in [mI l2, mI 0, mI 9] μ1 (fun v2 μ2 => (if (vI v2) = 0 then K (mI ((-2))) μ2 else (if l1 = 0 then (if l1 = 0 then (if l1 = 1 then (if l1 = 2 then (if l1 = 3 then K (mI (μ2 55 2)) (mS (mS (mS (mS μ2 55 2 l2) 55 3 l2) 55 4 l2) 55 5 l2) else K (mI (μ2 55 2)) (mS (mS (mS (mS μ2 55 2 l2) 55 3 l2) 55 4 l2) 55 5 ((mS (mS (mS μ2 55 2 l2) 55 3 l2) 55 4 l2) 55 5))) else (if l1 = 3 then K (mI (μ2 55 2)) (mS (mS (mS (mS μ2 55 2 l2) 55 3 l2) 55 4 ((mS (mS μ2 55 2 l2) 55 3 l2) 55 4)) 55 5 l2) else K (mI (μ2 55 2)) (mS (mS (mS (mS μ2 55 2 l2) 55 3 l2) 55 4 ((mS (mS μ2 55 2 l2) 55 3 l2) 55 4)) 55 5 ((mS (mS (mS μ2 55 2 l2) 55 3 l2) 55 4 ((mS (mS μ2 55 2 l2) 55 3 l2) 55 4)) 55 5)))) else (if l1 = 2 then (if l1 = 3 then K (mI (μ2 55 2)) (mS (mS (mS (mS μ2 55 2 l2) 55 3 ((mS μ2 55 2 l2) 55 3)) 55 4 l2) 55 5 l2) else K (mI (μ2 55 2)) (mS (mS (mS (mS μ2 55 2 l2) 55 3 ((mS μ2 55 2 l2) 55 3)) 55 4 l2) 55 5 ((mS (mS (mS μ2 55 2 l2) 55 3 ((mS μ2 55 2 l2) 55 3)) 55 4 l2) 55 5))) else (if l1 = 3 then K (mI (μ2 55 2)) (mS (mS (mS (mS μ2 55 2 l2) 55 3 ((mS μ2 55 2 l2) 55 3)) 55 4 ((mS (mS μ2 55 2 l2) 55 3 ((mS μ2 55 2 l2) 55 3)) 55 4)) 55 5 l2) else K (mI (μ2 55 2)) (mS (mS (mS (mS μ2 55 2 l2) 55 3 ((mS μ2 55 2 l2) 55 3)) 55 4 ((mS (mS μ2 55 2 l2) 55 3 ((mS μ2 55 2 l2) 55 3)) 55 4)) 55 5 ((mS (mS (mS μ2 55 2 l2) 55 3 ((mS μ2 55 2 l2) 55 3)) 55 4 ((mS (mS μ2 55 2 l2) 55 3 ((mS μ2 55 2 l2) 55 3)) 55 4)) 55 5))))) else (if l1 = 1 then (if l1 = 2 then (if l1 = 3 then K (mI (μ2 55 2)) (mS (mS (mS (mS μ2 55 2 (μ2 55 2)) 55 3 l2) 55 4 l2) 55 5 l2) else K (mI (μ2 55 2)) (mS (mS (mS (mS μ2 55 2 (μ2 55 2)) 55 3 l2) 55 4 l2) 55 5 ((mS (mS (mS μ2 55 2 (μ2 55 2)) 55 3 l2) 55 4 l2) 55 5))) else (if l1 = 3 then K (mI (μ2 55 2)) (mS (mS (mS (mS μ2 55 2 (μ2 55 2)) 55 3 l2) 55 4 ((mS (mS μ2 55 2 (μ2 55 2)) 55 3 l2) 55 4)) 55 5 l2) else K (mI (μ2 55 2)) (mS (mS (mS (mS μ2 55 2 (μ2 55 2)) 55 3 l2) 55 4 ((mS (mS μ2 55 2 (μ2 55 2)) 55 3 l2) 55 4)) 55 5 ((mS (mS (mS μ2 55 2 (μ2 55 2)) 55 3 l2) 55 4 ((mS (mS μ2 55 2 (μ2 55 2)) 55 3 l2) 55 4)) 55 5)))) else (if l1 = 2 then (if l1 = 3 then K (mI (μ2 55 2)) (mS (mS (mS (mS μ2 55 2 (μ2 55 2)) 55 3 ((mS μ2 55 2 (μ2 55 2)) 55 3)) 55 4 l2) 55 5 l2) else K (mI (μ2 55 2)) (mS (mS (mS (mS μ2 55 2 (μ2 55 2)) 55 3 ((mS μ2 55 2 (μ2 55 2)) 55 3)) 55 4 l2) 55 5 ((mS (mS (mS μ2 55 2 (μ2 55 2)) 55 3 ((mS μ2 55 2 (μ2 55 2)) 55 3)) 55 4 l2) 55 5))) else (if l1 = 3 then K (mI (μ2 55 2)) (mS (mS (mS (mS μ2 55 2 (μ2 55 2)) 55 3 ((mS μ2 55 2 (μ2 55 2)) 55 3)) 55 4 ((mS (mS μ2 55 2 (μ2 55 2)) 55 3 ((mS μ2 55 2 (μ2 55 2)) 55 3)) 55 4)) 55 5 l2) else K (mI (μ2 55 2)) (mS (mS (mS (mS μ2 55 2 (μ2 55 2)) 55 3 ((mS μ2 55 2 (μ2 55 2)) 55 3)) 55 4 ((mS (mS μ2 55 2 (μ2 55 2)) 55 3 ((mS μ2 55 2 (μ2 55 2)) 55 3)) 55 4)) 55 5 ((mS (mS (mS μ2 55 2 (μ2 55 2)) 55 3 ((mS μ2 55 2 (μ2 55 2)) 55 3)) 55 4 ((mS (mS μ2 55 2 (μ2 55 2)) 55 3 ((mS μ2 55 2 (μ2 55 2)) 55 3)) 55 4)) 55 5)))))) else (if l1 = 1 then (if l1 = 0 then (if l1 = 1 then (if l1 = 2 then (if l1 = 3 then K (mI (μ2 55 3)) (mS (mS (mS (mS μ2 55 2 l2) 55 3 l2) 55 4 l2) 55 5 l2) else K (mI (μ2 55 3)) (mS (mS (mS (mS μ2 55 2 l2) 55 3 l2) 55 4 l2) 55 5 ((mS (mS (mS μ2 55 2 l2) 55 3 l2) 55 4 l2) 55 5))) else (if l1 = 3 then K (mI (μ2 55 3)) (mS (mS (mS (mS μ2 55 2 l2) 55 3 l2) 55 4 ((mS (mS μ2 55 2 l2) 55 3 l2) 55 4)) 55 5 l2) else K (mI (μ2 55 3)) (mS (mS (mS (mS μ2 55 2 l2) 55 3 l2) 55 4 ((mS (mS μ2 55 2 l2) 55 3 l2) 55 4)) 55 5 ((mS (mS (mS μ2 55 2 l2) 55 3 l2) 55 4 ((mS (mS μ2 55 2 l2) 55 3 l2) 55 4)) 55 5)))) else (if l1 = 2 then (if l1 = 3 then K (mI (μ2 55 3)) (mS (mS (mS (mS μ2 55 2 l2) 55 3 ((mS μ2 55 2 l2) 55 3)) 55 4 l2) 55 5 l2) else K (mI (μ2 55 3)) (mS (mS (mS (mS μ2 55 2 l2) 55 3 ((mS μ2 55 2 l2) 55 3)) 55 4 l2) 55 5 ((mS (mS (mS μ2 55 2 l2) 55 3 ((mS μ2 55 2 l2) 55 3)) 55 4 l2) 55 5))) else (if l1 = 3 then K (mI (μ2 55 3)) (mS (mS (mS (mS μ2 55 2 l2) 55 3 ((mS μ2 55 2 l2) 55 3)) 55 4 ((mS (mS μ2 55 2 l2) 55 3 ((mS μ2 55 2 l2) 55 3)) 55 4)) 55 5 l2) else K (mI (μ2 55 3)) (mS (mS (mS (mS μ2 55 2 l2) 55 3 ((mS μ2 55 2 l2) 55 3)) 55 4 ((mS (mS μ2 55 2 l2) 55 3 ((mS μ2 55 2 l2) 55 3)) 55 4)) 55 5 ((mS (mS (mS μ2 55 2 l2) 55 3 ((mS μ2 55 2 l2) 55 3)) 55 4 ((mS (mS μ2 55 2 l2) 55 3 ((mS μ2 55 2 l2) 55 3)) 55 4)) 55 5))))) else (if l1 = 1 then (if l1 = 2 then (if l1 = 3 then K (mI (μ2 55 3)) (mS (mS (mS (mS μ2 55 2 (μ2 55 2)) 55 3 l2) 55 4 l2) 55 5 l2) else K (mI (μ2 55 3)) (mS (mS (mS (mS μ2 55 2 (μ2 55 2)) 55 3 l2) 55 4 l2) 55 5 ((mS (mS (mS μ2 55 2 (μ2 55 2)) 55 3 l2) 55 4 l2) 55 5))) else (if l1 = 3 then K (mI (μ2 55 3)) (mS (mS (mS (mS μ2 55 2 (μ2 55 2)) 55 3 l2) 55 4 ((mS (mS μ2 55 2 (μ2 55 2)) 55 3 l2) 55 4)) 55 5 l2) else K (mI (μ2 55 3)) (mS (mS (mS (mS μ2 55 2 (μ2 55 2)) 55 3 l2) 55 4 ((mS (mS μ2 55 2 (μ2 55 2)) 55 3 l2) 55 4)) 55 5 ((mS (mS (mS μ2 55 2 (μ2 55 2)) 55 3 l2) 55 4 ((mS (mS μ2 55 2 (μ2 55 2)) 55 3 l2) 55 4)) 55 5)))) else (if l1 = 2 then (if l1 = 3 then K (mI (μ2 55 3)) (mS (mS (mS (mS μ2 55 2 (μ2 55 2)) 55 3 ((mS μ2 55 2 (μ2 55 2)) 55 3)) 55 4 l2) 55 5 l2) else K (mI (μ2 55 3)) (mS (mS (mS (mS μ2 55 2 (μ2 55 2)) 55 3 ((mS μ2 55 2 (μ2 55 2)) 55 3)) 55 4 l2) 55 5 ((mS (mS (mS μ2 55 2 (μ2 55 2)) 55 3 ((mS μ2 55 2 (μ2 55 2)) 55 3)) 55 4 l2) 55 5))) else (if l1 = 3 then K (mI (μ2 55 3)) (mS (mS (mS (mS μ2 55 2 (μ2 55 2)) 55 3 ((mS μ2 55 2 (μ2 55 2)) 55 3)) 55 4 ((mS (mS μ2 55 2 (μ2 55 2)) 55 3 ((mS μ2 55 2 (μ2 55 2)) 55 3)) 55 4)) 55 5 l2) else K (mI (μ2 55 3)) (mS (mS (mS (mS μ2 55 2 (μ2 55 2)) 55 3 ((mS μ2 55 2 (μ2 55 2)) 55 3)) 55 4 ((mS (mS μ2 55 2 (μ2 55 2)) 55 3 ((mS μ2 55 2 (μ2 55 2)) 55 3)) 55 4)) 55 5 ((mS (mS (mS μ2 55 2 (μ2 55 2)) 55 3 ((mS μ2 55 2 (μ2 55 2)) 55 3)) 55 4 ((mS (mS μ2 55 2 (μ2 55 2)) 55 3 ((mS μ2 55 2 (μ2 55 2)) 55 3)) 55 4)) 55 5)))))) else (if l1 = 2 then (if l1 = 0 then (if l1 = 1 then (if l1 = 2 then (if l1 = 3 then K (mI (μ2 55 4)) (mS (mS (mS (mS μ2 55 2 l2) 55 3 l2) 55 4 l2) 55 5 l2) else K (mI (μ2 55 4)) (mS (mS (mS (mS μ2 55 2 l2) 55 3 l2) 55 4 l2) 55 5 ((mS (mS (mS μ2 55 2 l2) 55 3 l2) 55 4 l2) 55 5))) else (if l1 = 3 then K (mI (μ2 55 4)) (mS (mS (mS (mS μ2 55 2 l2) 55 3 l2) 55 4 ((mS (mS μ2 55 2 l2) 55 3 l2) 55 4)) 55 5 l2) else K (mI (μ2 55 4)) (mS (mS (mS (mS μ2 55 2 l2) 55 3 l2) 55 4 ((mS (mS μ2 55 2 l2) 55 3 l2) 55 4)) 55 5 ((mS (mS (mS μ2 55 2 l2) 55 3 l2) 55 4 ((mS (mS μ2 55 2 l2) 55 3 l2) 55 4)) 55 5)))) else (if l1 = 2 then (if l1 = 3 then K (mI (μ2 55 4)) (mS (mS (mS (mS μ2 55 2 l2) 55 3 ((mS μ2 55 2 l2) 55 3)) 55 4 l2) 55 5 l2) else K (mI (μ2 55 4)) (mS (mS (mS (mS μ2 55 2 l2) 55 3 ((mS μ2 55 2 l2) 55 3)) 55 4 l2) 55 5 ((mS (mS (mS μ2 55 2 l2) 55 3 ((mS μ2 55 2 l2) 55 3)) 55 4 l2) 55 5))) else (if l1 = 3 then K (mI (μ2 55 4)) (mS (mS (mS (mS μ2 55 2 l2) 55 3 ((mS μ2 55 2 l2) 55 3)) 55 4 ((mS (mS μ2 55 2 l2) 55 3 ((mS μ2 55 2 l2) 55 3)) 55 4)) 55 5 l2) else K (mI (μ2 55 4)) (mS (mS (mS (mS μ2 55 2 l2) 55 3 ((mS μ2 55 2 l2) 55 3)) 55 4 ((mS (mS μ2 55 2 l2) 55 3 ((mS μ2 55 2 l2) 55 3)) 55 4)) 55 5 ((mS (mS (mS μ2 55 2 l2) 55 3 ((mS μ2 55 2 l2) 55 3)) 55 4 ((mS (mS μ2 55 2 l2) 55 3 ((mS μ2 55 2 l2) 55 3)) 55 4)) 55 5))))) else (if l1 = 1 then (if l1 = 2 then (if l1 = 3 then K (mI (μ2 55 4)) (mS (mS (mS (mS μ2 55 2 (μ2 55 2)) 55 3 l2) 55 4 l2) 55 5 l2) else K (mI (μ2 55 4)) (mS (mS (mS (mS μ2 55 2 (μ2 55 2)) 55 3 l2) 55 4 l2) 55 5 ((mS (mS (mS μ2 55 2 (μ2 55 2)) 55 3 l2) 55 4 l2) 55 5))) else (if l1 = 3 then K (mI (μ2 55 4)) (mS (mS (mS (mS μ2 55 2 (μ2 55 2)) 55 3 l2) 55 4 ((mS (mS μ2 55 2 (μ2 55 2)) 55 3 l2) 55 4)) 55 5 l2) else K (mI (μ2 55 4)) (mS (mS (mS (mS μ2 55 2 (μ2 55 2)) 55 3 l2) 55 4 ((mS (mS μ2 55 2 (μ2 55 2)) 55 3 l2) 55 4)) 55 5 ((mS (mS (mS μ2 55 2 (μ2 55 2)) 55 3 l2) 55 4 ((mS (mS μ2 55 2 (μ2 55 2)) 55 3 l2) 55 4)) 55 5)))) else (if l1 = 2 then (if l1 = 3 then K (mI (μ2 55 4)) (mS (mS (mS (mS μ2 55 2 (μ2 55 2)) 55 3 ((mS μ2 55 2 (μ2 55 2)) 55 3)) 55 4 l2) 55 5 l2) else K (mI (μ2 55 4)) (mS (mS (mS (mS μ2 55 2 (μ2 55 2)) 55 3 ((mS μ2 55 2 (μ2 55 2)) 55 3)) 55 4 l2) 55 5 ((mS (mS (mS μ2 55 2 (μ2 55 2)) 55 3 ((mS μ2 55 2 (μ2 55 2)) 55 3)) 55 4 l2) 55 5))) else (if l1 = 3 then K (mI (μ2 55 4)) (mS (mS (mS (mS μ2 55 2 (μ2 55 2)) 55 3 ((mS μ2 55 2 (μ2 55 2)) 55 3)) 55 4 ((mS (mS μ2 55 2 (μ2 55 2)) 55 3 ((mS μ2 55 2 (μ2 55 2)) 55 3)) 55 4)) 55 5 l2) else K (mI (μ2 55 4)) (mS (mS (mS (mS μ2 55 2 (μ2 55 2)) 55 3 ((mS μ2 55 2 (μ2 55 2)) 55 3)) 55 4 ((mS (mS μ2 55 2 (μ2 55 2)) 55 3 ((mS μ2 55 2 (μ2 55 2)) 55 3)) 55 4)) 55 5 ((mS (mS (mS μ2 55 2 (μ2 55 2)) 55 3 ((mS μ2 55 2 (μ2 55 2)) 55 3)) 55 4 ((mS (mS μ2 55 2 (μ2 55 2)) 55 3 ((mS μ2 55 2 (μ2 55 2)) 55 3)) 55 4)) 55 5)))))) else (if l1 = 0 then (if l1 = 1 then (if l1 = 2 then (if l1 = 3 then K (mI (μ2 55 5)) (mS (mS (mS (mS μ2 55 2 l2) 55 3 l2) 55 4 l2) 55 5 l2) else K (mI (μ2 55 5)) (mS (mS (mS (mS μ2 55 2 l2) 55 3 l2) 55 4 l2) 55 5 ((mS (mS (mS μ2 55 2 l2) 55 3 l2) 55 4 l2) 55 5))) else (if l1 = 3 then K (mI (μ2 55 5)) (mS (mS (mS (mS μ2 55 2 l2) 55 3 l2) 55 4 ((mS (mS μ2 55 2 l2) 55 3 l2) 55 4)) 55 5 l2) else K (mI (μ2 55 5)) (mS (mS (mS (mS μ2 55 2 l2) 55 3 l2) 55 4 ((mS (mS μ2 55 2 l2) 55 3 l2) 55 4)) 55 5 ((mS (mS (mS μ2 55 2 l2) 55 3 l2) 55 4 ((mS (mS μ2 55 2 l2) 55 3 l2) 55 4)) 55 5)))) else (if l1 = 2 then (if l1 = 3 then K (mI (μ2 55 5)) (mS (mS (mS (mS μ2 55 2 l2) 55 3 ((mS μ2 55 2 l2) 55 3)) 55 4 l2) 55 5 l2) else K (mI (μ2 55 5)) (mS (mS (mS (mS μ2 55 2 l2) 55 3 ((mS μ2 55 2 l2) 55 3)) 55 4 l2) 55 5 ((mS (mS (mS μ2 55 2 l2) 55 3 ((mS μ2 55 2 l2) 55 3)) 55 4 l2) 55 5))) else (if l1 = 3 then K (mI (μ2 55 5)) (mS (mS (mS (mS μ2 55 2 l2) 55 3 ((mS μ2 55 2 l2) 55 3)) 55 4 ((mS (mS μ2 55 2 l2) 55 3 ((mS μ2 55 2 l2) 55 3)) 55 4)) 55 5 l2) else K (mI (μ2 55 5)) (mS (mS (mS (mS μ2 55 2 l2) 55 3 ((mS μ2 55 2 l2) 55 3)) 55 4 ((mS (mS μ2 55 2 l2) 55 3 ((mS μ2 55 2 l2) 55 3)) 55 4)) 55 5 ((mS (mS (mS μ2 55 2 l2) 55 3 ((mS μ2 55 2 l2) 55 3)) 55 4 ((mS (mS μ2 55 2 l2) 55 3 ((mS μ2 55 2 l2) 55 3)) 55 4)) 55 5))))) else (if l1 = 1 then (if l1 = 2 then (if l1 = 3 then K (mI (μ2 55 5)) (mS (mS (mS (mS μ2 55 2 (μ2 55 2)) 55 3 l2) 55 4 l2) 55 5 l2) else K (mI (μ2 55 5)) (mS (mS (mS (mS μ2 55 2 (μ2 55 2)) 55 3 l2) 55 4 l2) 55 5 ((mS (mS (mS μ2 55 2 (μ2 55 2)) 55 3 l2) 55 4 l2) 55 5))) else (if l1 = 3 then K (mI (μ2 55 5)) (mS (mS (mS (mS μ2 55 2 (μ2 55 2)) 55 3 l2) 55 4 ((mS (mS μ2 55 2 (μ2 55 2)) 55 3 l2) 55 4)) 55 5 l2) else K (mI (μ2 55 5)) (mS (mS (mS (mS μ2 55 2 (μ2 55 2)) 55 3 l2) 55 4 ((mS (mS μ2 55 2 (μ2 55 2)) 55 3 l2) 55 4)) 55 5 ((mS (mS (mS μ2 55 2 (μ2 55 2)) 55 3 l2) 55 4 ((mS (mS μ2 55 2 (μ2 55 2)) 55 3 l2) 55 4)) 55 5)))) else (if l1 = 2 then (if l1 = 3 then K (mI (μ2 55 5)) (mS (mS (mS (mS μ2 55 2 (μ2 55 2)) 55 3 ((mS μ2 55 2 (μ2 55 2)) 55 3)) 55 4 l2) 55 5 l2) else K (mI (μ2 55 5)) (mS (mS (mS (mS μ2 55 2 (μ2 55 2)) 55 3 ((mS μ2 55 2 (μ2 55 2)) 55 3)) 55 4 l2) 55 5 ((mS (mS (mS μ2 55 2 (μ2 55 2)) 55 3 ((mS μ2 55 2 (μ2 55 2)) 55 3)) 55 4 l2) 55 5))) else (if l1 = 3 then K (mI (μ2 55 5)) (mS (mS (mS (mS μ2 55 2 (μ2 55 2)) 55 3 ((mS μ2 55 2 (μ2 55 2)) 55 3)) 55 4 ((mS (mS μ2 55 2 (μ2 55 2)) 55 3 ((mS μ2 55 2 (μ2 55 2)) 55 3)) 55 4)) 55 5 l2) else K (mI (μ2 55 5)) (mS (mS (mS (mS μ2 55 2 (μ2 55 2)) 55 3 ((mS μ2 55 2 (μ2 55 2)) 55 3)) 55 4 ((mS (mS μ2 55 2 (μ2 55 2)) 55 3 ((mS μ2 55 2 (μ2 55 2)) 55 3)) 55 4)) 55 5 ((mS (mS (mS μ2 55 2 (μ2 55 2)) 55 3 ((mS μ2 55 2 (μ2 55 2)) 55 3)) 55 4 ((mS (mS μ2 55 2 (μ2 55 2)) 55 3 ((mS μ2 55 2 (μ2 55 2)) 55 3)) 55 4)) 55 5)))))))))))) else (if l1 = 2 then (s_X10_in [mI l2, mI 0, mI 1] μ1 (fun v2 μ2 => (if (vI v2) = 0 then K (mI ((-2))) μ2 else (if l1 = 0 then (if l1 = 0 then (if l1 = 1 then (if l1 = 2 then (if l1 = 3 then K (mI (μ2 55 2)) (mS (mS (mS (mS μ2 55 2 l2) 55 3 l2) 55 4 l2) 55 5 l2) else K (mI (μ2 55 2)) (mS (mS (mS (mS μ2 55 2 l2) 55 3 l2) 55 4 l2) 55 5 ((mS (mS (mS μ2 55 2 l2) 55 3 l2) 55 4 l2) 55 5))) else (if l1 = 3 then K (mI (μ2 55 2)) (mS (mS (mS (mS μ2 55 2 l2) 55 3 l2) 55 4 ((mS (mS μ2 55 2 l2) 55 3 l2) 55 4)) 55 5 l2) else K (mI (μ2 55 2)) (mS (mS (mS (mS μ2 55 2 l2) 55 3 l2) 55 4 ((mS (mS μ2 55 2 l2) 55 3 l2) 55 4)) 55 5 ((mS (mS (mS μ2 55 2 l2) 55 3 l2) 55 4 ((mS (mS μ2 55 2 l2) 55 3 l2) 55 4)) 55 5)))) else (if l1 = 2 then (if l1 = 3 then K (mI (μ2 55 2)) (mS (mS (mS (mS μ2 55 2 l2) 55 3 ((mS μ2 55 2 l2) 55 3)) 55 4 l2) 55 5 l2) else K (mI (μ2 55 2)) (mS (mS (mS (mS μ2 55 2 l2) 55 3 ((mS μ2 55 2 l2) 55 3)) 55 4 l2) 55 5 ((mS (mS (mS μ2 55 2 l2) 55 3 ((mS μ2 55 2 l2) 55 3)) 55 4 l2) 55 5))) else (if l1 = 3 then K (mI (μ2 55 2)) (mS (mS (mS (mS μ2 55 2 l2) 55 3 ((mS μ2 55 2 l2) 55 3)) 55 4 ((mS (mS μ2 55 2 l2) 55 3 ((mS μ2 55 2 l2) 55 3)) 55 4)) 55 5 l2) else K (mI (μ2 55 2)) (mS (mS (mS (mS μ2 55 2 l2) 55 3 ((mS μ2 55 2 l2) 55 3)) 55 4 ((mS (mS μ2 55 2 l2) 55 3 ((mS μ2 55 2 l2) 55 3)) 55 4)) 55 5 ((mS (mS (mS μ2 55 2 l2) 55 3 ((mS μ2 55 2 l2) 55 3)) 55 4 ((mS (mS μ2 55 2 l2) 55 3 ((mS μ2 55 2 l2) 55 3)) 55 4)) 55 5))))) else (if l1 = 1 then (if l1 = 2 then (if l1 = 3 then K (mI (μ2 55 2)) (mS (mS (mS (mS μ2 55 2 (μ2 55 2)) 55 3 l2) 55 4 l2) 55 5 l2) else K (mI (μ2 55 2)) (mS (mS (mS (mS μ2 55 2 (μ2 55 2)) 55 3 l2) 55 4 l2) 55 5 ((mS (mS (mS μ2 55 2 (μ2 55 2)) 55 3 l2) 55 4 l2) 55 5))) else (if l1 = 3 then K (mI (μ2 55 2)) (mS (mS (mS (mS μ2 55 2 (μ2 55 2)) 55 3 l2) 55 4 ((mS (mS μ2 55 2 (μ2 55 2)) 55 3 l2) 55 4)) 55 5 l2) else K (mI (μ2 55 2)) (mS (mS (mS (mS μ2 55 2 (μ2 55 2)) 55 3 l2) 55 4 ((mS (mS μ2 55 2 (μ2 55 2)) 55 3 l2) 55 4)) 55 5 ((mS (mS (mS μ2 55 2 (μ2 55 2)) 55 3 l2) 55 4 ((mS (mS μ2 55 2 (μ2 55 2)) 55 3 l2) 55 4)) 55 5)))) else (if l1 = 2 then (if l1 = 3 then K (mI (μ2 55 2)) (mS (mS (mS (mS μ2 55 2 (μ2 55 2)) 55 3 ((mS μ2 55 2 (μ2 55 2)) 55 3)) 55 4 l2) 55 5 l2) else K (mI (μ2 55 2)) (mS (mS (mS (mS μ2 55 2 (μ2 55 2)) 55 3 ((mS μ2 55 2 (μ2 55 2)) 55 3)) 55 4 l2) 55 5 ((mS (mS (mS μ2 55 2 (μ2 55 2)) 55 3 ((mS μ2 55 2 (μ2 55 2)) 55 3)) 55 4 l2) 55 5))) else (if l1 = 3 then K (mI (μ2 55 2)) (mS (mS (mS (mS μ2 55 2 (μ2 55 2)) 55 3 ((mS μ2 55 2 (μ2 55 2)) 55 3)) 55 4 ((mS (mS μ2 55 2 (μ2 55 2)) 55 3 ((mS μ2 55 2 (μ2 55 2)) 55 3)) 55 4)) 55 5 l2) else K (mI (μ2 55 2)) (mS (mS (mS (mS μ2 55 2 (μ2 55 2)) 55 3 ((mS μ2 55 2 (μ2 55 2)) 55 3)) 55 4 ((mS (mS μ2 55 2 (μ2 55 2)) 55 3 ((mS μ2 55 2 (μ2 55 2)) 55 3)) 55 4)) 55 5 ((mS (mS (mS μ2 55 2 (μ2 55 2)) 55 3 ((mS μ2 55 2 (μ2 55 2)) 55 3)) 55 4 ((mS (mS μ2 55 2 (μ2 55 2)) 55 3 ((mS μ2 55 2 (μ2 55 2)) 55 3)) 55 4)) 55 5)))))) else (if l1 = 1 then (if l1 = 0 then (if l1 = 1 then (if l1 = 2 then (if l1 = 3 then K (mI (μ2 55 3)) (mS (mS (mS (mS μ2 55 2 l2) 55 3 l2) 55 4 l2) 55 5 l2) else K (mI (μ2 55 3)) (mS (mS (mS (mS μ2 55 2 l2) 55 3 l2) 55 4 l2) 55 5 ((mS (mS (mS μ2 55 2 l2) 55 3 l2) 55 4 l2) 55 5))) else (if l1 = 3 then K (mI (μ2 55 3)) (mS (mS (mS (mS μ2 55 2 l2) 55 3 l2) 55 4 ((mS (mS μ2 55 2 l2) 55 3 l2) 55 4)) 55 5 l2) else K (mI (μ2 55 3)) (mS (mS (mS (mS μ2 55 2 l2) 55 3 l2) 55 4 ((mS (mS μ2 55 2 l2) 55 3 l2) 55 4)) 55 5 ((mS (mS (mS μ2 55 2 l2) 55 3 l2) 55 4 ((mS (mS μ2 55 2 l2) 55 3 l2) 55 4)) 55 5)))) else (if l1 = 2 then (if l1 = 3 then K (mI (μ2 55 3)) (mS (mS (mS (mS μ2 55 2 l2) 55 3 ((mS μ2 55 2 l2) 55 3)) 55 4 l2) 55 5 l2) else K (mI (μ2 55 3)) (mS (mS (mS (mS μ2 55 2 l2) 55 3 ((mS μ2 55 2 l2) 55 3)) 55 4 l2) 55 5 ((mS (mS (mS μ2 55 2 l2) 55 3 ((mS μ2 55 2 l2) 55 3)) 55 4 l2) 55 5))) else (if l1 = 3 then K (mI (μ2 55 3)) (mS (mS (mS (mS μ2 55 2 l2) 55 3 ((mS μ2 55 2 l2) 55 3)) 55 4 ((mS (mS μ2 55 2 l2) 55 3 ((mS μ2 55 2 l2) 55 3)) 55 4)) 55 5 l2) else K (mI (μ2 55 3)) (mS (mS (mS (mS μ2 55 2 l2) 55 3 ((mS μ2 55 2 l2) 55 3)) 55 4 ((mS (mS μ2 55 2 l2) 55 3 ((mS μ2 55 2 l2) 55 3)) 55 4)) 55 5 ((mS (mS (mS μ2 55 2 l2) 55 3 ((mS μ2 55 2 l2) 55 3)) 55 4 ((mS (mS μ2 55 2 l2) 55 3 ((mS μ2 55 2 l2) 55 3)) 55 4)) 55 5))))) else (if l1 = 1 then (if l1 = 2 then (if l1 = 3 then K (mI (μ2 55 3)) (mS (mS (mS (mS μ2 55 2 (μ2 55 2)) 55 3 l2) 55 4 l2) 55 5 l2) else K (mI (μ2 55 3)) (mS (mS (mS (mS μ2 55 2 (μ2 55 2)) 55 3 l2) 55 4 l2) 55 5 ((mS (mS (mS μ2 55 2 (μ2 55 2)) 55 3 l2) 55 4 l2) 55 5))) else (if l1 = 3 then K (mI (μ2 55 3)) (mS (mS (mS (mS μ2 55 2 (μ2 55 2)) 55 3 l2) 55 4 ((mS (mS μ2 55 2 (μ2 55 2)) 55 3 l2) 55 4)) 55 5 l2) else K (mI (μ2 55 3)) (mS (mS (mS (mS μ2 55 2 (μ2 55 2)) 55 3 l2) 55 4 ((mS (mS μ2 55 2 (μ2 55 2)) 55 3 l2) 55 4)) 55 5 ((mS (mS (mS μ2 55 2 (μ2 55 2)) 55 3 l2) 55 4 ((mS (mS μ2 55 2 (μ2 55 2)) 55 3 l2) 55 4)) 55 5)))) else (if l1 = 2 then (if l1 = 3 then K (mI (μ2 55 3)) (mS (mS (mS (mS μ2 55 2 (μ2 55 2)) 55 3 ((mS μ2 55 2 (μ2 55 2)) 55 3)) 55 4 l2) 55 5 l2) else K (mI (μ2 55 3)) (mS (mS (mS (mS μ2 55 2 (μ2 55 2)) 55 3 ((mS μ2 55 2 (μ2 55 2)) 55 3)) 55 4 l2) 55 5 ((mS (mS (mS μ2 55 2 (μ2 55 2)) 55 3 ((mS μ2 55 2 (μ2 55 2)) 55 3)) 55 4 l2) 55 5))) else (if l1 = 3 then K (mI (μ2 55 3)) (mS (mS (mS (mS μ2 55 2 (μ2 55 2)) 55 3 ((mS μ2 55 2 (μ2 55 2)) 55 3)) 55 4 ((mS (mS μ2 55 2 (μ2 55 2)) 55 3 ((mS μ2 55 2 (μ2 55 2)) 55 3)) 55 4)) 55 5 l2) else K (mI (μ2 55 3)) (mS (mS (mS (mS μ2 55 2 (μ2 55 2)) 55 3 ((mS μ2 55 2 (μ2 55 2)) 55 3)) 55 4 ((mS (mS μ2 55 2 (μ2 55 2)) 55 3 ((mS μ2 55 2 (μ2 55 2)) 55 3)) 55 4)) 55 5 ((mS (mS (mS μ2 55 2 (μ2 55 2)) 55 3 ((mS μ2 55 2 (μ2 55 2)) 55 3)) 55 4 ((mS (mS μ2 55 2 (μ2 55 2)) 55 3 ((mS μ2 55 2 (μ2 55 2)) 55 3)) 55 4)) 55 5)))))) else (if l1 = 2 then (if l1 = 0 then (if l1 = 1 then (if l1 = 2 then (if l1 = 3 then K (mI (μ2 55 4)) (mS (mS (mS (mS μ2 55 2 l2) 55 3 l2) 55 4 l2) 55 5 l2) else K (mI (μ2 55 4)) (mS (mS (mS (mS μ2 55 2 l2) 55 3 l2) 55 4 l2) 55 5 ((mS (mS (mS μ2 55 2 l2) 55 3 l2) 55 4 l2) 55 5))) else (if l1 = 3 then K (mI (μ2 55 4)) (mS (mS (mS (mS μ2 55 2 l2) 55 3 l2) 55 4 ((mS (mS μ2 55 2 l2) 55 3 l2) 55 4)) 55 5 l2) else K (mI (μ2 55 4)) (mS (mS (mS (mS μ2 55 2 l2) 55 3 l2) 55 4 ((mS (mS μ2 55 2 l2) 55 3 l2) 55 4)) 55 5 ((mS (mS (mS μ2 55 2 l2) 55 3 l2) 55 4 ((mS (mS μ2 55 2 l2) 55 3 l2) 55 4)) 55 5)))) else (if l1 = 2 then (if l1 = 3 then K (mI (μ2 55 4)) (mS (mS (mS (mS μ2 55 2 l2) 55 3 ((mS μ2 55 2 l2) 55 3)) 55 4 l2) 55 5 l2) else K (mI (μ2 55 4)) (mS (mS (mS (mS μ2 55 2 l2) 55 3 ((mS μ2 55 2 l2) 55 3)) 55 4 l2) 55 5 ((mS (mS (mS μ2 55 2 l2) 55 3 ((mS μ2 55 2 l2) 55 3)) 55 4 l2) 55 5))) else (if l1 = 3 then K (mI (μ2 55 4)) (mS (mS (mS (mS μ2 55 2 l2) 55 3 ((mS μ2 55 2 l2) 55 3)) 55 4 ((mS (mS μ2 55 2 l2) 55 3 ((mS μ2 55 2 l2) 55 3)) 55 4)) 55 5 l2) else K (mI (μ2 55 4)) (mS (mS (mS (mS μ2 55 2 l2) 55 3 ((mS μ2 55 2 l2) 55 3)) 55 4 ((mS (mS μ2 55 2 l2) 55 3 ((mS μ2 55 2 l2) 55 3)) 55 4)) 55 5 ((mS (mS (mS μ2 55 2 l2) 55 3 ((mS μ2 55 2 l2) 55 3)) 55 4 ((mS (mS μ2 55 2 l2) 55 3 ((mS μ2 55 2 l2) 55 3)) 55 4)) 55 5))))) else (if l1 = 1 then (if l1 = 2 then (if l1 = 3 then K (mI (μ2 55 4)) (mS (mS (mS (mS μ2 55 2 (μ2 55 2)) 55 3 l2) 55 4 l2) 55 5 l2) else K (mI (μ2 55 4)) (mS (mS (mS (mS μ2 55 2 (μ2 55 2)) 55 3 l2) 55 4 l2) 55 5 ((mS (mS (mS μ2 55 2 (μ2 55 2)) 55 3 l2) 55 4 l2) 55 5))) else (if l1 = 3 then K (mI (μ2 55 4)) (mS (mS (mS (mS μ2 55 2 (μ2 55 2)) 55 3 l2) 55 4 ((mS (mS μ2 55 2 (μ2 55 2)) 55 3 l2) 55 4)) 55 5 l2) else K (mI (μ2 55 4)) (mS (mS (mS (mS μ2 55 2 (μ2 55 2)) 55 3 l2) 55 4 ((mS (mS μ2 55 2 (μ2 55 2)) 55 3 l2) 55 4)) 55 5 ((mS (mS (mS μ2 55 2 (μ2 55 2)) 55 3 l2) 55 4 ((mS (mS μ2 55 2 (μ2 55 2)) 55 3 l2) 55 4)) 55 5)))) else (if l1 = 2 then (if l1 = 3 then K (mI (μ2 55 4)) (mS (mS (mS (mS μ2 55 2 (μ2 55 2)) 55 3 ((mS μ2 55 2 (μ2 55 2)) 55 3)) 55 4 l2) 55 5 l2) else K (mI (μ2 55 4)) (mS (mS (mS (mS μ2 55 2 (μ2 55 2)) 55 3 ((mS μ2 55 2 (μ2 55 2)) 55 3)) 55 4 l2) 55 5 ((mS (mS (mS μ2 55 2 (μ2 55 2)) 55 3 ((mS μ2 55 2 (μ2 55 2)) 55 3)) 55 4 l2) 55 5))) else (if l1 = 3 then K (mI (μ2 55 4)) (mS (mS (mS (mS μ2 55 2 (μ2 55 2)) 55 3 ((mS μ2 55 2 (μ2 55 2)) 55 3)) 55 4 ((mS (mS μ2 55 2 (μ2 55 2)) 55 3 ((mS μ2 55 2 (μ2 55 2)) 55 3)) 55 4)) 55 5 l2) else K (mI (μ2 55 4)) (mS (mS (mS (mS μ2 55 2 (μ2 55 2)) 55 3 ((mS μ2 55 2 (μ2 55 2)) 55 3)) 55 4 ((mS (mS μ2 55 2 (μ2 55 2)) 55 3 ((mS μ2 55 2 (μ2 55 2)) 55 3)) 55 4)) 55 5 ((mS (mS (mS μ2 55 2 (μ2 55 2)) 55 3 ((mS μ2 55 2 (μ2 55 2)) 55 3)) 55 4 ((mS (mS μ2 55 2 (μ2 55 2)) 55 3 ((mS μ2 55 2 (μ2 55 2)) 55 3)) 55 4)) 55 5)))))) else (if l1 = 0 then (if l1 = 1 then (if l1 = 2 then (if l1 = 3 then K (mI (μ2 55 5)) (mS (mS (mS (mS μ2 55 2 l2) 55 3 l2) 55 4 l2) 55 5 l2) else K (mI (μ2 55 5)) (mS (mS (mS (mS μ2 55 2 l2) 55 3 l2) 55 4 l2) 55 5 ((mS (mS (mS μ2 55 2 l2) 55 3 l2) 55 4 l2) 55 5))) else (if l1 = 3 then K (mI (μ2 55 5)) (mS (mS (mS (mS μ2 55 2 l2) 55 3 l2) 55 4 ((mS (mS μ2 55 2 l2) 55 3 l2) 55 4)) 55 5 l2) else K (mI (μ2 55 5)) (mS (mS (mS (mS μ2 55 2 l2) 55 3 l2) 55 4 ((mS (mS μ2 55 2 l2) 55 3 l2) 55 4)) 55 5 ((mS (mS (mS μ2 55 2 l2) 55 3 l2) 55 4 ((mS (mS μ2 55 2 l2) 55 3 l2) 55 4)) 55 5)))) else (if l1 = 2 then (if l1 = 3 then K (mI (μ2 55 5)) (mS (mS (mS (mS μ2 55 2 l2) 55 3 ((mS μ2 55 2 l2) 55 3)) 55 4 l2) 55 5 l2) else K (mI (μ2 55 5)) (mS (mS (mS (mS μ2 55 2 l2) 55 3 ((mS μ2 55 2 l2) 55 3)) 55 4 l2) 55 5 ((mS (mS (mS μ2 55 2 l2) 55 3 ((mS μ2 55 2 l2) 55 3)) 55 4 l2) 55 5))) else (if l1 = 3 then K (mI (μ2 55 5)) (mS (mS (mS (mS μ2 55 2 l2) 55 3 ((mS μ2 55 2 l2) 55 3)) 55 4 ((mS (mS μ2 55 2 l2) 55 3 ((mS μ2 55 2 l2) 55 3)) 55 4)) 55 5 l2) else K (mI (μ2 55 5)) (mS (mS (mS (mS μ2 55 2 l2) 55 3 ((mS μ2 55 2 l2) 55 3)) 55 4 ((mS (mS μ2 55 2 l2) 55 3 ((mS μ2 55 2 l2) 55 3)) 55 4)) 55 5 ((mS (mS (mS μ2 55 2 l2) 55 3 ((mS μ2 55 2 l2) 55 3)) 55 4 ((mS (mS μ2 55 2 l2) 55 3 ((mS μ2 55 2 l2) 55 3)) 55 4)) 55 5))))) else (if l1 = 1 then (if l1 = 2 then (if l1 = 3 then K (mI (μ2 55 5)) (mS (mS (mS (mS μ2 55 2 (μ2 55 2)) 55 3 l2) 55 4 l2) 55 5 l2) else K (mI (μ2 55 5)) (mS (mS (mS (mS μ2 55 2 (μ2 55 2)) 55 3 l2) 55 4 l2) 55 5 ((mS (mS (mS μ2 55 2 (μ2 55 2)) 55 3 l2) 55 4 l2) 55 5))) else (if l1 = 3 then K (mI (μ2 55 5)) (mS (mS (mS (mS μ2 55 2 (μ2 55 2)) 55 3 l2) 55 4 ((mS (mS μ2 55 2 (μ2 55 2)) 55 3 l2) 55 4)) 55 5 l2) else K (mI (μ2 55 5)) (mS (mS (mS (mS μ2 55 2 (μ2 55 2)) 55 3 l2) 55 4 ((mS (mS μ2 55 2 (μ2 55 2)) 55 3 l2) 55 4)) 55 5 ((mS (mS (mS μ2 55 2 (μ2 55 2)) 55 3 l2) 55 4 ((mS (mS μ2 55 2 (μ2 55 2)) 55 3 l2) 55 4)) 55 5)))) else (if l1 = 2 then (if l1 = 3 then K (mI (μ2 55 5)) (mS (mS (mS (mS μ2 55 2 (μ2 55 2)) 55 3 ((mS μ2 55 2 (μ2 55 2)) 55 3)) 55 4 l2) 55 5 l2) else K (mI (μ2 55 5)) (mS (mS (mS (mS μ2 55 2 (μ2 55 2)) 55 3 ((mS μ2 55 2 (μ2 55 2)) 55 3)) 55 4 l2) 55 5 ((mS (mS (mS μ2 55 2 (μ2 55 2)) 55 3 ((mS μ2 55 2 (μ2 55 2)) 55 3)) 55 4 l2) 55 5))) else (if l1 = 3 then K (mI (μ2 55 5)) (mS (mS (mS (mS μ2 55 2 (μ2 55 2)) 55 3 ((mS μ2 55 2 (μ2 55 2)) 55 3)) 55 4 ((mS (mS μ2 55 2 (μ2 55 2)) 55 3 ((mS μ2 55 2 (μ2 55 2)) 55 3)) 55 4)) 55 5 l2) else K (mI (μ2 55 5)) (mS (mS (mS (mS μ2 55 2 (μ2 55 2)) 55 3 ((mS μ2 55 2 (μ2 55 2)) 55 3)) 55 4 ((mS (mS μ2 55 2 (μ2 55 2)) 55 3 ((mS μ2 55 2 (μ2 55 2)) 55 3)) 55 4)) 55 5 ((mS (mS (mS μ2 55 2 (μ2 55 2)) 55 3 ((mS μ2 55 2 (μ2 55 2)) 55 3)) 55 4 ((mS (mS μ2 55 2 (μ2 55 2)) 55 3 ((mS μ2 55 2 (μ2 55 2)) 55 3)) 55 4)) 55 5)))))))))))) else (s_X10_in [mI l2, mI 0, mI 30] μ1 (fun v2 μ2 => (if (vI v2) = 0 then K (mI ((-2))) μ2 else (if l1 = 0 then (if l1 = 0 then (if l1 = 1 then (if l1 = 2 then (if l1 = 3 then K (mI (μ2 55 2)) (mS (mS (mS (mS μ2 55 2 l2) 55 3 l2) 55 4 l2) 55 5 l2) else K (mI (μ2 55 2)) (mS (mS (mS (mS μ2 55 2 l2) 55 3 l2) 55 4 l2) 55 5 ((mS (mS (mS μ2 55 2 l2) 55 3 l2) 55 4 l2) 55 5))) else (if l1 = 3 then K (mI (μ2 55 2)) (mS (mS (mS (mS μ2 55 2 l2) 55 3 l2) 55 4 ((mS (mS μ2 55 2 l2) 55 3 l2) 55 4)) 55 5 l2) else K (mI (μ2 55 2)) (mS (mS (mS (mS μ2 55 2 l2) 55 3 l2) 55 4 ((mS (mS μ2 55 2 l2) 55 3 l2) 55 4)) 55 5 ((mS (mS (mS μ2 55 2 l2) 55 3 l2) 55 4 ((mS (mS μ2 55 2 l2) 55 3 l2) 55 4)) 55 5)))) else (if l1 = 2 then (if l1 = 3 then K (mI (μ2 55 2)) (mS (mS (mS (mS μ2 55 2 l2) 55 3 ((mS μ2 55 2 l2) 55 3)) 55 4 l2) 55 5 l2) else K (mI (μ2 55 2)) (mS (mS (mS (mS μ2 55 2 l2) 55 3 ((mS μ2 55 2 l2) 55 3)) 55 4 l2) 55 5 ((mS (mS (mS μ2 55 2 l2) 55 3 ((mS μ2 55 2 l2) 55 3)) 55 4 l2) 55 5))) else (if l1 = 3 then K (mI (μ2 55 2)) (mS (mS (mS (mS μ2 55 2 l2) 55 3 ((mS μ2 55 2 l2) 55 3)) 55 4 ((mS (mS μ2 55 2 l2) 55 3 ((mS μ2 55 2 l2) 55 3)) 55 4)) 55 5 l2) else K (mI (μ2 55 2)) (mS (mS (mS (mS μ2 55 2 l2) 55 3 ((mS μ2 55 2 l2) 55 3)) 55 4 ((mS (mS μ2 55 2 l2) 55 3 ((mS μ2 55 2 l2) 55 3)) 55 4)) 55 5 ((mS (mS (mS μ2 55 2 l2) 55 3 ((mS μ2 55 2 l2) 55 3)) 55 4 ((mS (mS μ2 55 2 l2) 55 3 ((mS μ2 55 2 l2) 55 3)) 55 4)) 55 5))))) else (if l1 = 1 then (if l1 = 2 then (if l1 = 3 then K (mI (μ2 55 2)) (mS (mS (mS (mS μ2 55 2 (μ2 55 2)) 55 3 l2) 55 4 l2) 55 5 l2) else K (mI (μ2 55 2)) (mS (mS (mS (mS μ2 55 2 (μ2 55 2)) 55 3 l2) 55 4 l2) 55 5 ((mS (mS (mS μ2 55 2 (μ2 55 2)) 55 3 l2) 55 4 l2) 55 5))) else (if l1 = 3 then K (mI (μ2 55 2)) (mS (mS (mS (mS μ2 55 2 (μ2 55 2)) 55 3 l2) 55 4 ((mS (mS μ2 55 2 (μ2 55 2)) 55 3 l2) 55 4)) 55 5 l2) else K (mI (μ2 55 2)) (mS (mS (mS (mS μ2 55 2 (μ2 55 2)) 55 3 l2) 55 4 ((mS (mS μ2 55 2 (μ2 55 2)) 55 3 l2) 55 4)) 55 5 ((mS (mS (mS μ2 55 2 (μ2 55 2)) 55 3 l2) 55 4 ((mS (mS μ2 55 2 (μ2 55 2)) 55 3 l2) 55 4)) 55 5)))) else (if l1 = 2 then (if l1 = 3 then K (mI (μ2 55 2)) (mS (mS (mS (mS μ2 55 2 (μ2 55 2)) 55 3 ((mS μ2 55 2 (μ2 55 2)) 55 3)) 55 4 l2) 55 5 l2) else K (mI (μ2 55 2)) (mS (mS (mS (mS μ2 55 2 (μ2 55 2)) 55 3 ((mS μ2 55 2 (μ2 55 2)) 55 3)) 55 4 l2) 55 5 ((mS (mS (mS μ2 55 2 (μ2 55 2)) 55 3 ((mS μ2 55 2 (μ2 55 2)) 55 3)) 55 4 l2) 55 5))) else (if l1 = 3 then K (mI (μ2 55 2)) (mS (mS (mS (mS μ2 55 2 (μ2 55 2)) 55 3 ((mS μ2 55 2 (μ2 55 2)) 55 3)) 55 4 ((mS (mS μ2 55 2 (μ2 55 2)) 55 3 ((mS μ2 55 2 (μ2 55 2)) 55 3)) 55 4)) 55 5 l2) else K (mI (μ2 55 2)) (mS (mS (mS (mS μ2 55 2 (μ2 55 2)) 55 3 ((mS μ2 55 2 (μ2 55 2)) 55 3)) 55 4 ((mS (mS μ2 55 2 (μ2 55 2)) 55 3 ((mS μ2 55 2 (μ2 55 2)) 55 3)) 55 4)) 55 5 ((mS (mS (mS μ2 55 2 (μ2 55 2)) 55 3 ((mS μ2 55 2 (μ2 55 2)) 55 3)) 55 4 ((mS (mS μ2 55 2 (μ2 55 2)) 55 3 ((mS μ2 55 2 (μ2 55 2)) 55 3)) 55 4)) 55 5)))))) else (if l1 = 1 then (if l1 = 0 then (if l1 = 1 then (if l1 = 2 then (if l1 = 3 then K (mI (μ2 55 3)) (mS (mS (mS (mS μ2 55 2 l2) 55 3 l2) 55 4 l2) 55 5 l2) else K (mI (μ2 55 3)) (mS (mS (mS (mS μ2 55 2 l2) 55 3 l2) 55 4 l2) 55 5 ((mS (mS (mS μ2 55 2 l2) 55 3 l2) 55 4 l2) 55 5))) else (if l1 = 3 then K (mI (μ2 55 3)) (mS (mS (mS (mS μ2 55 2 l2) 55 3 l2) 55 4 ((mS (mS μ2 55 2 l2) 55 3 l2) 55 4)) 55 5 l2) else K (mI (μ2 55 3)) (mS (mS (mS (mS μ2 55 2 l2) 55 3 l2) 55 4 ((mS (mS μ2 55 2 l2) 55 3 l2) 55 4)) 55 5 ((mS (mS (mS μ2 55 2 l2) 55 3 l2) 55 4 ((mS (mS μ2 55 2 l2) 55 3 l2) 55 4)) 55 5)))) else (if l1 = 2 then (if l1 = 3 then K (mI (μ2 55 3)) (mS (mS (mS (mS μ2 55 2 l2) 55 3 ((mS μ2 55 2 l2) 55 3)) 55 4 l2) 55 5 l2) else K (mI (μ2 55 3)) (mS (mS (mS (mS μ2 55 2 l2) 55 3 ((mS μ2 55 2 l2) 55 3)) 55 4 l2) 55 5 ((mS (mS (mS μ2 55 2 l2) 55 3 ((mS μ2 55 2 l2) 55 3)) 55 4 l2) 55 5))) else (if l1 = 3 then K (mI (μ2 55 3)) (mS (mS (mS (mS μ2 55 2 l2) 55 3 ((mS μ2 55 2 l2) 55 3)) 55 4 ((mS (mS μ2 55 2 l2) 55 3 ((mS μ2 55 2 l2) 55 3)) 55 4)) 55 5 l2) else K (mI (μ2 55 3)) (mS (mS (mS (mS μ2 55 2 l2) 55 3 ((mS μ2 55 2 l2) 55 3)) 55 4 ((mS (mS μ2 55 2 l2) 55 3 ((mS μ2 55 2 l2) 55 3)) 55 4)) 55 5 ((mS (mS (mS μ2 55 2 l2) 55 3 ((mS μ2 55 2 l2) 55 3)) 55 4 ((mS (mS μ2 55 2 l2) 55 3 ((mS μ2 55 2 l2) 55 3)) 55 4)) 55 5))))) else (if l1 = 1 then (if l1 = 2 then (if l1 = 3 then K (mI (μ2 55 3)) (mS (mS (mS (mS μ2 55 2 (μ2 55 2)) 55 3 l2) 55 4 l2) 55 5 l2) else K (mI (μ2 55 3)) (mS (mS (mS (mS μ2 55 2 (μ2 55 2)) 55 3 l2) 55 4 l2) 55 5 ((mS (mS (mS μ2 55 2 (μ2 55 2)) 55 3 l2) 55 4 l2) 55 5))) else (if l1 = 3 then K (mI (μ2 55 3)) (mS (mS (mS (mS μ2 55 2 (μ2 55 2)) 55 3 l2) 55 4 ((mS (mS μ2 55 2 (μ2 55 2)) 55 3 l2) 55 4)) 55 5 l2) else K (mI (μ2 55 3)) (mS (mS (mS (mS μ2 55 2 (μ2 55 2)) 55 3 l2) 55 4 ((mS (mS μ2 55 2 (μ2 55 2)) 55 3 l2) 55 4)) 55 5 ((mS (mS (mS μ2 55 2 (μ2 55 2)) 55 3 l2) 55 4 ((mS (mS μ2 55 2 (μ2 55 2)) 55 3 l2) 55 4)) 55 5)))) else (if l1 = 2 then (if l1 = 3 then K (mI (μ2 55 3)) (mS (mS (mS (mS μ2 55 2 (μ2 55 2)) 55 3 ((mS μ2 55 2 (μ2 55 2)) 55 3)) 55 4 l2) 55 5 l2) else K (mI (μ2 55 3)) (mS (mS (mS (mS μ2 55 2 (μ2 55 2)) 55 3 ((mS μ2 55 2 (μ2 55 2)) 55 3)) 55 4 l2) 55 5 ((mS (mS (mS μ2 55 2 (μ2 55 2)) 55 3 ((mS μ2 55 2 (μ2 55 2)) 55 3)) 55 4 l2) 55 5))) else (if l1 = 3 then K (mI (μ2 55 3)) (mS (mS (mS (mS μ2 55 2 (μ2 55 2)) 55 3 ((mS μ2 55 2 (μ2 55 2)) 55 3)) 55 4 ((mS (mS μ2 55 2 (μ2 55 2)) 55 3 ((mS μ2 55 2 (μ2 55 2)) 55 3)) 55 4)) 55 5 l2) else K (mI (μ2 55 3)) (mS (mS (mS (mS μ2 55 2 (μ2 55 2)) 55 3 ((mS μ2 55 2 (μ2 55 2)) 55 3)) 55 4 ((mS (mS μ2 55 2 (μ2 55 2)) 55 3 ((mS μ2 55 2 (μ2 55 2)) 55 3)) 55 4)) 55 5 ((mS (mS (mS μ2 55 2 (μ2 55 2)) 55 3 ((mS μ2 55 2 (μ2 55 2)) 55 3)) 55 4 ((mS (mS μ2 55 2 (μ2 55 2)) 55 3 ((mS μ2 55 2 (μ2 55 2)) 55 3)) 55 4)) 55 5)))))) else (if l1 = 2 then (if l1 = 0 then (if l1 = 1 then (if l1 = 2 then (if l1 = 3 then K (mI (μ2 55 4)) (mS (mS (mS (mS μ2 55 2 l2) 55 3 l2) 55 4 l2) 55 5 l2) else K (mI (μ2 55 4)) (mS (mS (mS (mS μ2 55 2 l2) 55 3 l2) 55 4 l2) 55 5 ((mS (mS (mS μ2 55 2 l2) 55 3 l2) 55 4 l2) 55 5))) else (if l1 = 3 then K (mI (μ2 55 4)) (mS (mS (mS (mS μ2 55 2 l2) 55 3 l2) 55 4 ((mS (mS μ2 55 2 l2) 55 3 l2) 55 4)) 55 5 l2) else K (mI (μ2 55 4)) (mS (mS (mS (mS μ2 55 2 l2) 55 3 l2) 55 4 ((mS (mS μ2 55 2 l2) 55 3 l2) 55 4)) 55 5 ((mS (mS (mS μ2 55 2 l2) 55 3 l2) 55 4 ((mS (mS μ2 55 2 l2) 55 3 l2) 55 4)) 55 5)))) else (if l1 = 2 then (if l1 = 3 then K (mI (μ2 55 4)) (mS (mS (mS (mS μ2 55 2 l2) 55 3 ((mS μ2 55 2 l2) 55 3)) 55 4 l2) 55 5 l2) else K (mI (μ2 55 4)) (mS (mS (mS (mS μ2 55 2 l2) 55 3 ((mS μ2 55 2 l2) 55 3)) 55 4 l2) 55 5 ((mS (mS (mS μ2 55 2 l2) 55 3 ((mS μ2 55 2 l2) 55 3)) 55 4 l2) 55 5))) else (if l1 = 3 then K (mI (μ2 55 4)) (mS (mS (mS (mS μ2 55 2 l2) 55 3 ((mS μ2 55 2 l2) 55 3)) 55 4 ((mS (mS μ2 55 2 l2) 55 3 ((mS μ2 55 2 l2) 55 3)) 55 4)) 55 5 l2) else K (mI (μ2 55 4)) (mS (mS (mS (mS μ2 55 2 l2) 55 3 ((mS μ2 55 2 l2) 55 3)) 55 4 ((mS (mS μ2 55 2 l2) 55 3 ((mS μ2 55 2 l2) 55 3)) 55 4)) 55 5 ((mS (mS (mS μ2 55 2 l2) 55 3 ((mS μ2 55 2 l2) 55 3)) 55 4 ((mS (mS μ2 55 2 l2) 55 3 ((mS μ2 55 2 l2) 55 3)) 55 4)) 55 5))))) else (if l1 = 1 then (if l1 = 2 then (if l1 = 3 then K (mI (μ2 55 4)) (mS (mS (mS (mS μ2 55 2 (μ2 55 2)) 55 3 l2) 55 4 l2) 55 5 l2) else K (mI (μ2 55 4)) (mS (mS (mS (mS μ2 55 2 (μ2 55 2)) 55 3 l2) 55 4 l2) 55 5 ((mS (mS (mS μ2 55 2 (μ2 55 2)) 55 3 l2) 55 4 l2) 55 5))) else (if l1 = 3 then K (mI (μ2 55 4)) (mS (mS (mS (mS μ2 55 2 (μ2 55 2)) 55 3 l2) 55 4 ((mS (mS μ2 55 2 (μ2 55 2)) 55 3 l2) 55 4)) 55 5 l2) else K (mI (μ2 55 4)) (mS (mS (mS (mS μ2 55 2 (μ2 55 2)) 55 3 l2) 55 4 ((mS (mS μ2 55 2 (μ2 55 2)) 55 3 l2) 55 4)) 55 5 ((mS (mS (mS μ2 55 2 (μ2 55 2)) 55 3 l2) 55 4 ((mS (mS μ2 55 2 (μ2 55 2)) 55 3 l2) 55 4)) 55 5)))) else (if l1 = 2 then (if l1 = 3 then K (mI (μ2 55 4)) (mS (mS (mS (mS μ2 55 2 (μ2 55 2)) 55 3 ((mS μ2 55 2 (μ2 55 2)) 55 3)) 55 4 l2) 55 5 l2) else K (mI (μ2 55 4)) (mS (mS (mS (mS μ2 55 2 (μ2 55 2)) 55 3 ((mS μ2 55 2 (μ2 55 2)) 55 3)) 55 4 l2) 55 5 ((mS (mS (mS μ2 55 2 (μ2 55 2)) 55 3 ((mS μ2 55 2 (μ2 55 2)) 55 3)) 55 4 l2) 55 5))) else (if l1 = 3 then K (mI (μ2 55 4)) (mS (mS (mS (mS μ2 55 2 (μ2 55 2)) 55 3 ((mS μ2 55 2 (μ2 55 2)) 55 3)) 55 4 ((mS (mS μ2 55 2 (μ2 55 2)) 55 3 ((mS μ2 55 2 (μ2 55 2)) 55 3)) 55 4)) 55 5 l2) else K (mI (μ2 55 4)) (mS (mS (mS (mS μ2 55 2 (μ2 55 2)) 55 3 ((mS μ2 55 2 (μ2 55 2)) 55 3)) 55 4 ((mS (mS μ2 55 2 (μ2 55 2)) 55 3 ((mS μ2 55 2 (μ2 55 2)) 55 3)) 55 4)) 55 5 ((mS (mS (mS μ2 55 2 (μ2 55 2)) 55 3 ((mS μ2 55 2 (μ2 55 2)) 55 3)) 55 4 ((mS (mS μ2 55 2 (μ2 55 2)) 55 3 ((mS μ2 55 2 (μ2 55 2)) 55 3)) 55 4)) 55 5)))))) else (if l1 = 0 then (if l1 = 1 then (if l1 = 2 then (if l1 = 3 then K (mI (μ2 55 5)) (mS (mS (mS (mS μ2 55 2 l2) 55 3 l2) 55 4 l2) 55 5 l2) else K (mI (μ2 55 5)) (mS (mS (mS (mS μ2 55 2 l2) 55 3 l2) 55 4 l2) 55 5 ((mS (mS (mS μ2 55 2 l2) 55 3 l2) 55 4 l2) 55 5))) else (if l1 = 3 then K (mI (μ2 55 5)) (mS (mS (mS (mS μ2 55 2 l2) 55 3 l2) 55 4 ((mS (mS μ2 55 2 l2) 55 3 l2) 55 4)) 55 5 l2) else K (mI (μ2 55 5)) (mS (mS (mS (mS μ2 55 2 l2) 55 3 l2) 55 4 ((mS (mS μ2 55 2 l2) 55 3 l2) 55 4)) 55 5 ((mS (mS (mS μ2 55 2 l2) 55 3 l2) 55 4 ((mS (mS μ2 55 2 l2) 55 3 l2) 55 4)) 55 5)))) else (if l1 = 2 then (if l1 = 3 then K (mI (μ2 55 5)) (mS (mS (mS (mS μ2 55 2 l2) 55 3 ((mS μ2 55 2 l2) 55 3)) 55 4 l2) 55 5 l2) else K (mI (μ2 55 5)) (mS (mS (mS (mS μ2 55 2 l2) 55 3 ((mS μ2 55 2 l2) 55 3)) 55 4 l2) 55 5 ((mS (mS (mS μ2 55 2 l2) 55 3 ((mS μ2 55 2 l2) 55 3)) 55 4 l2) 55 5))) else (if l1 = 3 then K (mI (μ2 55 5)) (mS (mS (mS (mS μ2 55 2 l2) 55 3 ((mS μ2 55 2 l2) 55 3)) 55 4 ((mS (mS μ2 55 2 l2) 55 3 ((mS μ2 55 2 l2) 55 3)) 55 4)) 55 5 l2) else K (mI (μ2 55 5)) (mS (mS (mS (mS μ2 55 2 l2) 55 3 ((mS μ2 55 2 l2) 55 3)) 55 4 ((mS (mS μ2 55 2 l2) 55 3 ((mS μ2 55 2 l2) 55 3)) 55 4)) 55 5 ((mS (mS (mS μ2 55 2 l2) 55 3 ((mS μ2 55 2 l2) 55 3)) 55 4 ((mS (mS μ2 55 2 l2) 55 3 ((mS μ2 55 2 l2) 55 3)) 55 4)) 55 5))))) else (if l1 = 1 then (if l1 = 2 then (if l1 = 3 then K (mI (μ2 55 5)) (mS (mS (mS (mS μ2 55 2 (μ2 55 2)) 55 3 l2) 55 4 l2) 55 5 l2) else K (mI (μ2 55 5)) (mS (mS (mS (mS μ2 55 2 (μ2 55 2)) 55 3 l2) 55 4 l2) 55 5 ((mS (mS (mS μ2 55 2 (μ2 55 2)) 55 3 l2) 55 4 l2) 55 5))) else (if l1 = 3 then K (mI (μ2 55 5)) (mS (mS (mS (mS μ2 55 2 (μ2 55 2)) 55 3 l2) 55 4 ((mS (mS μ2 55 2 (μ2 55 2)) 55 3 l2) 55 4)) 55 5 l2) else K (mI (μ2 55 5)) (mS (mS (mS (mS μ2 55 2 (μ2 55 2)) 55 3 l2) 55 4 ((mS (mS μ2 55 2 (μ2 55 2)) 55 3 l2) 55 4)) 55 5 ((mS (mS (mS μ2 55 2 (μ2 55 2)) 55 3 l2) 55 4 ((mS (mS μ2 55 2 (μ2 55 2)) 55 3 l2) 55 4)) 55 5)))) else (if l1 = 2 then (if l1 = 3 then K (mI (μ2 55 5)) (mS (mS (mS (mS μ2 55 2 (μ2 55 2)) 55 3 ((mS μ2 55 2 (μ2 55 2)) 55 3)) 55 4 l2) 55 5 l2) else K (mI (μ2 55 5)) (mS (mS (mS (mS μ2 55 2 (μ2 55 2)) 55 3 ((mS μ2 55 2 (μ2 55 2)) 55 3)) 55 4 l2) 55 5 ((mS (mS (mS μ2 55 2 (μ2 55 2)) 55 3 ((mS μ2 55 2 (μ2 55 2)) 55 3)) 55 4 l2) 55 5))) else (if l1 = 3 then K (mI (μ2 55 5)) (mS (mS (mS (mS μ2 55 2 (μ2 55 2)) 55 3 ((mS μ2 55 2 (μ2 55 2)) 55 3)) 55 4 ((mS (mS μ2 55 2 (μ2 55 2)) 55 3 ((mS μ2 55 2 (μ2 55 2)) 55 3)) 55 4)) 55 5 l2) else K (mI (μ2 55 5)) (mS (mS (mS (mS μ2 55 2 (μ2 55 2)) 55 3 ((mS μ2 55 2 (μ2 55 2)) 55 3)) 55 4 ((mS (mS μ2 55 2 (μ2 55 2)) 55 3 ((mS μ2 55 2 (μ2 55 2)) 55 3)) 55 4)) 55 5 ((mS (mS (mS μ2 55 2 (μ2 55 2)) 55 3 ((mS μ2 55 2 (μ2 55 2)) 55 3)) 55 4 ((mS (mS μ2 55 2 (μ2 55 2)) 55 3 ((mS μ2 55 2 (μ2 55 2)) 55 3)) 55 4)) 55 5)))))))))))))))))) : s_X10_set [mO 9 55, mI l1, mI l2] μ K := seg (pc := 0) (L := [mO 9 55, mI l1, mI l2, mU]) (S := []) m_X10_set [] 82 H
set_option maxRecDepth 100000 in
theorem g_X10_say {μ : Mm} {K : MV → Mm → Prop} {l1 : Int32} (H : (s_X10_in [mI l1, mI 33, mI 126] μ (fun v1 μ1 => (if (vI v1) = 0 then K (mI ((-2))) μ1 else (if (μ1 55 13) = 48 then K (mI ((-4))) μ1 else (vi (μ1 55 13) 48 ∧ K (mI ((mS (mS μ1 62 (μ1 55 13).toNatClampNeg l1) 55 13 (((mS μ1 62 (μ1 55 13).toNatClampNeg l1) 55 13) + 1)) 55 13)) (mS (mS μ1 62 (μ1 55 13).toNatClampNeg l1) 55 13 (((mS μ1 62 (μ1 55 13).toNatClampNeg l1) 55 13) + 1)))))))) : s_X10_say [mO 9 55, mI l1] μ K := seg (pc := 0) (L := [mO 9 55, mI l1]) (S := []) m_X10_say [] 31 H
set_option maxRecDepth 100000 in
theorem g_X10_wipe {μ : Mm} {K : MV → Mm → Prop}  (H : K (mI (μ 55 13)) (mS μ 55 13 0)) : s_X10_wipe [mO 9 55] μ K := seg (pc := 0) (L := [mO 9 55, mU]) (S := []) m_X10_wipe [] 11 H
set_option maxRecDepth 100000 in
theorem g_X10_guestFault {μ : Mm} {K : MV → Mm → Prop}  (H : Tot e_X10_guestFault K 2 [mO 9 55, mI 0] [] μ) : s_X10_guestFault [mO 9 55] μ K := seg (pc := 0) (L := [mO 9 55, mU]) (S := []) m_X10_guestFault [2] 43 H
set_option maxRecDepth 100000 in
theorem g_X10_guestFault_2 {μ : Mm} {K : MV → Mm → Prop} {l1 : Int32} (H : (if (μ 55 13) ≤ l1 then (if (μ 55 0) ≤ (μ 55 13) then K (mI ((-6))) μ else K (mI (μ 55 13)) μ) else (if l1 = (μ 55 0) then K (mI l1) μ else (vi l1 48 ∧ (s_X10_in [mI (μ 62 l1.toNatClampNeg), mI 97, mI 122] μ (fun v1 μ1 => (if (vI v1) = 0 then (vi l1 48 ∧ (s_X10_in [mI (μ1 62 l1.toNatClampNeg), mI 65, mI 74] μ1 (fun v2 μ2 => (if (vI v2) = 0 then K (mI l1) μ2 else Tot e_X10_guestFault K 2 [mO 9 55, mI (l1 + 1)] [] μ2)))) else Tot e_X10_guestFault K 2 [mO 9 55, mI (l1 + 1)] [] μ1))))))) : Tot e_X10_guestFault K 2 [mO 9 55, mI l1] [] μ := seg (pc := 2) (L := [mO 9 55, mI l1]) (S := []) m_X10_guestFault [2] 43 H
set_option maxRecDepth 100000 in
theorem g_X10_orderFault {μ : Mm} {K : MV → Mm → Prop}  (H : Tot e_X10_orderFault K 4 [mO 9 55, mI 0, mI 0, mU] [] μ) : s_X10_orderFault [mO 9 55] μ K := seg (pc := 0) (L := [mO 9 55, mU, mU, mU]) (S := []) m_X10_orderFault [4] 46 H
set_option maxRecDepth 100000 in
theorem g_X10_orderFault_4 {μ : Mm} {K : MV → Mm → Prop} {l1 : Int32} {l2 : Int32} {z3 : MV} (H : (if (μ 55 13) ≤ l2 then (if (μ 55 0) ≤ (μ 55 13) then K (mI ((-6))) μ else K (mI (μ 55 13)) μ) else (vi l2 48 ∧ (s_X10_isAct [mO 9 55, mI ((μ 62 l2.toNatClampNeg) - 48)] μ (fun v1 μ1 => (if (vI v1) = 0 then K (mI l2) μ1 else (s_X10_has [mI l1, mI ((μ 62 l2.toNatClampNeg) - 48)] μ1 (fun v2 μ2 => (if (vI v2) = 0 then Tot e_X10_orderFault K 4 [mO 9 55, mI (l1 ||| ((1 : Int32) <<< (((μ 62 l2.toNatClampNeg) - 48) &&& 31))), mI (l2 + 1), mI ((μ 62 l2.toNatClampNeg) - 48)] [] μ2 else K (mI l2) μ2))))))))) : Tot e_X10_orderFault K 4 [mO 9 55, mI l1, mI l2, z3] [] μ := seg (pc := 4) (L := [mO 9 55, mI l1, mI l2, z3]) (S := []) m_X10_orderFault [4] 46 H
set_option maxRecDepth 100000 in
theorem g_X10_fault {μ : Mm} {K : MV → Mm → Prop} {l1 : Int32} (H : (if l1 = 0 then (s_X10_guestFault [mO 9 55] μ (fun v1 μ1 => K (mI (vI v1)) μ1)) else (if l1 = 1 then (s_X10_orderFault [mO 9 55] μ (fun v1 μ1 => K (mI (vI v1)) μ1)) else K (mI ((-2))) μ))) : s_X10_fault [mO 9 55, mI l1] μ K := seg (pc := 0) (L := [mO 9 55, mI l1]) (S := []) m_X10_fault [] 16 H
set_option maxRecDepth 100000 in
theorem g_X10_guest {μ : Mm} {K : MV → Mm → Prop} {l1 : Int32} (H : (s_X10_in [mI l1, mI 0, mI 7] μ (fun v1 μ1 => (if (vI v1) = 0 then K (mI ((-1))) μ1 else (s_X10_guestFault [mO 9 55] μ1 (fun v2 μ2 => (if (vI v2) < 0 then Tot e_X10_guest K 24 [mO 9 55, mI l1, mI 0] [] μ2 else K (mI ((-5))) μ2))))))) : s_X10_guest [mO 9 55, mI l1] μ K := seg (pc := 0) (L := [mO 9 55, mI l1, mU]) (S := []) m_X10_guest [24] 65 H
set_option maxRecDepth 100000 in
theorem g_X10_guest_24 {μ : Mm} {K : MV → Mm → Prop} {l1 : Int32} {l2 : Int32} (H : (if (μ 55 0) ≤ l2 then (s_X10_bits [mI ((mS (mS μ 55 1 ((μ 55 1) ||| ((1 : Int32) <<< (l1 &&& 31)))) 55 13 0) 55 1)] (mS (mS μ 55 1 ((μ 55 1) ||| ((1 : Int32) <<< (l1 &&& 31)))) 55 13 0) (fun v1 μ1 => K (mI (vI v1)) μ1)) else (vi l2 48 ∧ (if (μ 62 l2.toNatClampNeg) < 97 then (vi l2 48 ∧ (vi ((6 * l1) + l2) 48 ∧ Tot e_X10_guest K 24 [mO 9 55, mI l1, mI (l2 + 1)] [] (mS μ 56 ((6 * l1) + l2).toNatClampNeg (64 - (μ 62 l2.toNatClampNeg))))) else (vi l2 48 ∧ (vi ((6 * l1) + l2) 48 ∧ Tot e_X10_guest K 24 [mO 9 55, mI l1, mI (l2 + 1)] [] (mS μ 56 ((6 * l1) + l2).toNatClampNeg ((μ 62 l2.toNatClampNeg) - 97)))))))) : Tot e_X10_guest K 24 [mO 9 55, mI l1, mI l2] [] μ := seg (pc := 24) (L := [mO 9 55, mI l1, mI l2]) (S := []) m_X10_guest [24] 65 H
set_option maxRecDepth 100000 in
theorem g_X10_leave {μ : Mm} {K : MV → Mm → Prop} {l1 : Int32} (H : (s_X10_comes [mO 9 55, mI l1] μ (fun v1 μ1 => (if (vI v1) = 0 then K (mI ((-1))) μ1 else (s_X10_bits [mI ((mS μ1 55 1 ((μ1 55 1) &&& (((1 : Int32) <<< (l1 &&& 31)) ^^^ ((-1))))) 55 1)] (mS μ1 55 1 ((μ1 55 1) &&& (((1 : Int32) <<< (l1 &&& 31)) ^^^ ((-1))))) (fun v2 μ2 => K (mI (vI v2)) μ2)))))) : s_X10_leave [mO 9 55, mI l1] μ K := seg (pc := 0) (L := [mO 9 55, mI l1]) (S := []) m_X10_leave [] 23 H
set_option maxRecDepth 100000 in
theorem g_X10_worth {μ : Mm} {K : MV → Mm → Prop} {l1 : Int32} {l2 : Int32} (H : (s_X10_comes [mO 9 55, mI l1] μ (fun v1 μ1 => (if (vI v1) = 0 then K (mI ((-1))) μ1 else (s_X10_isAct [mO 9 55, mI l2] μ1 (fun v2 μ2 => (if (vI v2) = 0 then K (mI ((-1))) μ2 else (vi ((6 * l1) + l2) 48 ∧ K (mI ((μ2 56 ((6 * l1) + l2).toNatClampNeg) + 10)) μ2)))))))) : s_X10_worth [mO 9 55, mI l1, mI l2] μ K := seg (pc := 0) (L := [mO 9 55, mI l1, mI l2]) (S := []) m_X10_worth [] 24 H
set_option maxRecDepth 100000 in
theorem g_X10_play {μ : Mm} {K : MV → Mm → Prop}  (H : (s_X10_orderFault [mO 9 55] μ (fun v1 μ1 => (if (vI v1) < 0 then Tot e_X10_play K 12 [mO 9 55, mI 0] [] μ1 else K (mI ((-5))) μ1)))) : s_X10_play [mO 9 55] μ K := seg (pc := 0) (L := [mO 9 55, mU]) (S := []) m_X10_play [12] 31 H
set_option maxRecDepth 100000 in
theorem g_X10_play_12 {μ : Mm} {K : MV → Mm → Prop} {l1 : Int32} (H : (if (μ 55 0) ≤ l1 then K (mI 1) (mS μ 55 13 0) else (vi l1 48 ∧ (vi l1 6 ∧ Tot e_X10_play K 12 [mO 9 55, mI (l1 + 1)] [] (mS μ 57 l1.toNatClampNeg ((μ 62 l1.toNatClampNeg) - 48)))))) : Tot e_X10_play K 12 [mO 9 55, mI l1] [] μ := seg (pc := 12) (L := [mO 9 55, mI l1]) (S := []) m_X10_play [12] 31 H
set_option maxRecDepth 100000 in
theorem g_X10_faresOf {μ : Mm} {K : MV → Mm → Prop} {l1 : Int32} {l2 : Int32} (H : (¬ (2 : Int32) = 0 ∧ K (mI ((l2 * l1) + ((((μ 55 3) * l2) * (l2 - 1)) / 2))) μ)) : s_X10_faresOf [mO 9 55, mI l1, mI l2] μ K := seg (pc := 0) (L := [mO 9 55, mI l1, mI l2]) (S := []) m_X10_faresOf [] 18 H
set_option maxRecDepth 100000 in
theorem g_X10_leavesAt {μ : Mm} {K : MV → Mm → Prop} {l1 : Int32} (H : Tot e_X10_leavesAt K 12 [mO 9 55, mI l1, mI 0, mI 0, mI 1, mU] [] (mS μ 55 15 0)) : s_X10_leavesAt [mO 9 55, mI l1] μ K := seg (pc := 0) (L := [mO 9 55, mI l1, mU, mU, mU, mU]) (S := []) m_X10_leavesAt [12] 60 H
set_option maxRecDepth 100000 in
theorem g_X10_leavesAt_12 {μ : Mm} {K : MV → Mm → Prop} {l1 : Int32} {l2 : Int32} {l3 : Int32} {l4 : Int32} {z5 : MV} (H : (if (μ 55 0) < l4 then K (mI l2) μ else (vi (l4 - 1) 6 ∧ (vi ((6 * l1) + (μ 57 (l4 - 1).toNatClampNeg)) 48 ∧ (s_X10_faresOf [mO 9 55, mI (μ 55 2), mI l4] μ (fun v1 μ1 => (if ((l3 + (μ 56 ((6 * l1) + (μ 57 (l4 - 1).toNatClampNeg)).toNatClampNeg)) - (vI v1)) ≤ (μ1 55 15) then Tot e_X10_leavesAt K 12 [mO 9 55, mI l1, mI l2, mI (l3 + (μ 56 ((6 * l1) + (μ 57 (l4 - 1).toNatClampNeg)).toNatClampNeg)), mI (l4 + 1), mI ((l3 + (μ 56 ((6 * l1) + (μ 57 (l4 - 1).toNatClampNeg)).toNatClampNeg)) - (vI v1))] [] μ1 else (if (μ1 55 4) = 0 then Tot e_X10_leavesAt K 12 [mO 9 55, mI l1, mI l4, mI (l3 + (μ 56 ((6 * l1) + (μ 57 (l4 - 1).toNatClampNeg)).toNatClampNeg)), mI (l4 + 1), mI ((l3 + (μ 56 ((6 * l1) + (μ 57 (l4 - 1).toNatClampNeg)).toNatClampNeg)) - (vI v1))] [] (mS μ1 55 15 ((l3 + (μ 56 ((6 * l1) + (μ 57 (l4 - 1).toNatClampNeg)).toNatClampNeg)) - (vI v1))) else (if l4 = (μ1 55 0) then Tot e_X10_leavesAt K 12 [mO 9 55, mI l1, mI l4, mI (l3 + (μ 56 ((6 * l1) + (μ 57 (l4 - 1).toNatClampNeg)).toNatClampNeg)), mI (l4 + 1), mI ((l3 + (μ 56 ((6 * l1) + (μ 57 (l4 - 1).toNatClampNeg)).toNatClampNeg)) - (vI v1))] [] (mS μ1 55 15 ((l3 + (μ 56 ((6 * l1) + (μ 57 (l4 - 1).toNatClampNeg)).toNatClampNeg)) - (vI v1))) else Tot e_X10_leavesAt K 12 [mO 9 55, mI l1, mI l2, mI (l3 + (μ 56 ((6 * l1) + (μ 57 (l4 - 1).toNatClampNeg)).toNatClampNeg)), mI (l4 + 1), mI ((l3 + (μ 56 ((6 * l1) + (μ 57 (l4 - 1).toNatClampNeg)).toNatClampNeg)) - (vI v1))] [] μ1))))))))) : Tot e_X10_leavesAt K 12 [mO 9 55, mI l1, mI l2, mI l3, mI l4, z5] [] μ := seg (pc := 12) (L := [mO 9 55, mI l1, mI l2, mI l3, mI l4, z5]) (S := []) m_X10_leavesAt [12] 60 H
set_option maxRecDepth 100000 in
theorem g_X10_paysOf {μ : Mm} {K : MV → Mm → Prop} {l1 : Int32} (H : (s_X10_leavesAt [mO 9 55, mI l1] μ (fun v1 μ1 => (s_X10_faresOf [mO 9 55, mI (μ 55 2), mI (vI v1)] μ1 (fun v2 μ2 => K (mI (vI v2)) μ2))))) : s_X10_paysOf [mO 9 55, mI l1] μ K := seg (pc := 0) (L := [mO 9 55, mI l1]) (S := []) m_X10_paysOf [] 11 H
set_option maxRecDepth 100000 in
theorem g_X10_allTakings {μ : Mm} {K : MV → Mm → Prop}  (H : Tot e_X10_allTakings K 4 [mO 9 55, mI 0, mI 0] [] μ) : s_X10_allTakings [mO 9 55] μ K := seg (pc := 0) (L := [mO 9 55, mU, mU]) (S := []) m_X10_allTakings [4] 27 H
set_option maxRecDepth 100000 in
theorem g_X10_allTakings_4 {μ : Mm} {K : MV → Mm → Prop} {l1 : Int32} {l2 : Int32} (H : (if 8 ≤ l2 then K (mI l1) μ else (s_X10_has [mI (μ 55 1), mI l2] μ (fun v1 μ1 => (if (vI v1) = 0 then Tot e_X10_allTakings K 4 [mO 9 55, mI (l1 + 0), mI (l2 + 1)] [] μ1 else (s_X10_paysOf [mO 9 55, mI l2] μ1 (fun v2 μ2 => Tot e_X10_allTakings K 4 [mO 9 55, mI (l1 + (vI v2)), mI (l2 + 1)] [] μ2))))))) : Tot e_X10_allTakings K 4 [mO 9 55, mI l1, mI l2] [] μ := seg (pc := 4) (L := [mO 9 55, mI l1, mI l2]) (S := []) m_X10_allTakings [4] 27 H
set_option maxRecDepth 100000 in
theorem g_X10_leaves {μ : Mm} {K : MV → Mm → Prop} {l1 : Int32} {l2 : Int32} (H : (s_X10_comes [mO 9 55, mI l1] μ (fun v1 μ1 => (if (vI v1) = 0 then K (mI ((-1))) μ1 else (s_X10_in [mI l2, mI 0, mI 2] μ1 (fun v2 μ2 => (if (vI v2) = 0 then K (mI ((-2))) μ2 else (s_X10_leavesAt [mO 9 55, mI l1] μ2 (fun v3 μ3 => (if l2 = 0 then K (mI (vI v3)) μ3 else (if l2 = 1 then (s_X10_faresOf [mO 9 55, mI (μ3 55 2), mI (vI v3)] μ3 (fun v4 μ4 => K (mI (vI v4)) μ4)) else K (mI (μ3 55 15)) μ3))))))))))) : s_X10_leaves [mO 9 55, mI l1, mI l2] μ K := seg (pc := 0) (L := [mO 9 55, mI l1, mI l2, mU]) (S := []) m_X10_leaves [] 36 H
set_option maxRecDepth 100000 in
theorem g_X10_takings {μ : Mm} {K : MV → Mm → Prop}  (H : (s_X10_allTakings [mO 9 55] μ (fun v1 μ1 => K (mI (vI v1)) μ1))) : s_X10_takings [mO 9 55] μ K := seg (pc := 0) (L := [mO 9 55]) (S := []) m_X10_takings [] 6 H
set_option maxRecDepth 100000 in
theorem g_X10_stayed {μ : Mm} {K : MV → Mm → Prop} {l1 : Int32} (H : (s_X10_isAct [mO 9 55, mI l1] μ (fun v1 μ1 => (if (vI v1) = 0 then K (mI ((-1))) μ1 else Tot e_X10_stayed K 14 [mO 9 55, mI l1, mI 0, mI 0] [] μ1)))) : s_X10_stayed [mO 9 55, mI l1] μ K := seg (pc := 0) (L := [mO 9 55, mI l1, mU, mU]) (S := []) m_X10_stayed [14] 36 H
set_option maxRecDepth 100000 in
theorem g_X10_stayed_14 {μ : Mm} {K : MV → Mm → Prop} {l1 : Int32} {l2 : Int32} {l3 : Int32} (H : (if 8 ≤ l3 then K (mI l2) μ else (s_X10_has [mI (μ 55 1), mI l3] μ (fun v1 μ1 => (if (vI v1) = 0 then Tot e_X10_stayed K 14 [mO 9 55, mI l1, mI (l2 + 0), mI (l3 + 1)] [] μ1 else (s_X10_leavesAt [mO 9 55, mI l3] μ1 (fun v2 μ2 => (if (vI v2) ≤ l1 then Tot e_X10_stayed K 14 [mO 9 55, mI l1, mI (l2 + 0), mI (l3 + 1)] [] μ2 else Tot e_X10_stayed K 14 [mO 9 55, mI l1, mI (l2 + 1), mI (l3 + 1)] [] μ2)))))))) : Tot e_X10_stayed K 14 [mO 9 55, mI l1, mI l2, mI l3] [] μ := seg (pc := 14) (L := [mO 9 55, mI l1, mI l2, mI l3]) (S := []) m_X10_stayed [14] 36 H
set_option maxRecDepth 100000 in
theorem g_X10_fares {μ : Mm} {K : MV → Mm → Prop} {l1 : Int32} (H : (s_X10_in [mI l1, mI 0, mI 2] μ (fun v1 μ1 => (if (vI v1) = 0 then K (mI ((-2))) μ1 else Tot e_X10_fares K 32 [mO 9 55, mI l1, mI (μ1 55 2), mI (μ1 55 3), mI ((-6)), mI 0, mI 0, mU] [] μ1)))) : s_X10_fares [mO 9 55, mI l1] μ K := seg (pc := 0) (L := [mO 9 55, mI l1, mU, mU, mU, mU, mU, mU]) (S := []) m_X10_fares [32] 75 H
set_option maxRecDepth 100000 in
theorem g_X10_fares_32 {μ : Mm} {K : MV → Mm → Prop} {l1 : Int32} {l2 : Int32} {l3 : Int32} {l4 : Int32} {l5 : Int32} {l6 : Int32} {z7 : MV} (H : (if 310 ≤ l6 then (if l1 = 0 then (¬ (10 : Int32) = 0 ∧ K (mI (l5 / 10)) (mS (mS μ 55 2 l2) 55 3 l3)) else (if l1 = 1 then (¬ (10 : Int32) = 0 ∧ K (mI (l5 - l5 / 10 * 10)) (mS (mS μ 55 2 l2) 55 3 l3)) else K (mI l4) (mS (mS μ 55 2 l2) 55 3 l3))) else (¬ (10 : Int32) = 0 ∧ (¬ (10 : Int32) = 0 ∧ (s_X10_allTakings [mO 9 55] (mS (mS μ 55 2 (l6 / 10)) 55 3 (l6 - l6 / 10 * 10)) (fun v1 μ1 => (if (vI v1) ≤ l4 then (if (vI v1) ≤ l4 then Tot e_X10_fares K 32 [mO 9 55, mI l1, mI l2, mI l3, mI l4, mI l5, mI (l6 + 1), mI (vI v1)] [] μ1 else Tot e_X10_fares K 32 [mO 9 55, mI l1, mI l2, mI l3, mI (vI v1), mI l5, mI (l6 + 1), mI (vI v1)] [] μ1) else (if (vI v1) ≤ l4 then Tot e_X10_fares K 32 [mO 9 55, mI l1, mI l2, mI l3, mI l4, mI l6, mI (l6 + 1), mI (vI v1)] [] μ1 else Tot e_X10_fares K 32 [mO 9 55, mI l1, mI l2, mI l3, mI (vI v1), mI l6, mI (l6 + 1), mI (vI v1)] [] μ1)))))))) : Tot e_X10_fares K 32 [mO 9 55, mI l1, mI l2, mI l3, mI l4, mI l5, mI l6, z7] [] μ := seg (pc := 32) (L := [mO 9 55, mI l1, mI l2, mI l3, mI l4, mI l5, mI l6, z7]) (S := []) m_X10_fares [32] 75 H
set_option maxRecDepth 100000 in
theorem g_X10_isAhead {μ : Mm} {K : MV → Mm → Prop} {l1 : Int32} {l2 : Int32} (H : (vi l1 6 ∧ Tot e_X10_isAhead K 10 [mO 9 55, mI l1, mI l2, mI (μ 58 l1.toNatClampNeg), mI 0, mU] [] μ)) : s_X10_isAhead [mO 9 55, mI l1, mI l2] μ K := seg (pc := 0) (L := [mO 9 55, mI l1, mI l2, mU, mU, mU]) (S := []) m_X10_isAhead [10, 20] 39 H
set_option maxRecDepth 100000 in
theorem g_X10_isAhead_10 {μ : Mm} {K : MV → Mm → Prop} {l1 : Int32} {l2 : Int32} {l3 : Int32} {l4 : Int32} {z5 : MV} (H : (if 6 ≤ l4 then (s_X10_has [mI l3, mI l2] μ (fun v1 μ1 => (zb (vI v1) ∧ K (mI (vI v1)) μ1))) else Tot e_X10_isAhead K 20 [mO 9 55, mI l1, mI l2, mI l3, mI l4, mI 0] [] μ)) : Tot e_X10_isAhead K 10 [mO 9 55, mI l1, mI l2, mI l3, mI l4, z5] [] μ := seg (pc := 10) (L := [mO 9 55, mI l1, mI l2, mI l3, mI l4, z5]) (S := []) m_X10_isAhead [10, 20] 39 H
set_option maxRecDepth 100000 in
theorem g_X10_isAhead_20 {μ : Mm} {K : MV → Mm → Prop} {l1 : Int32} {l2 : Int32} {l3 : Int32} {l4 : Int32} {l5 : Int32} (H : (if 6 ≤ l5 then Tot e_X10_isAhead K 10 [mO 9 55, mI l1, mI l2, mI l3, mI (l4 + 1), mI l5] [] μ else (s_X10_has [mI l3, mI l5] μ (fun v1 μ1 => (if (vI v1) = 0 then Tot e_X10_isAhead K 20 [mO 9 55, mI l1, mI l2, mI (l3 ||| 0), mI l4, mI (l5 + 1)] [] μ1 else (vi l5 6 ∧ Tot e_X10_isAhead K 20 [mO 9 55, mI l1, mI l2, mI (l3 ||| (μ1 58 l5.toNatClampNeg)), mI l4, mI (l5 + 1)] [] μ1)))))) : Tot e_X10_isAhead K 20 [mO 9 55, mI l1, mI l2, mI l3, mI l4, mI l5] [] μ := seg (pc := 20) (L := [mO 9 55, mI l1, mI l2, mI l3, mI l4, mI l5]) (S := []) m_X10_isAhead [10, 20] 39 H
set_option maxRecDepth 100000 in
theorem g_X10_must {μ : Mm} {K : MV → Mm → Prop} {l1 : Int32} {l2 : Int32} (H : (s_X10_isAct [mO 9 55, mI l1] μ (fun v1 μ1 => (if (vI v1) = 0 then K (mI ((-1))) μ1 else (s_X10_isAct [mO 9 55, mI l2] μ1 (fun v2 μ2 => (if (vI v2) = 0 then K (mI ((-1))) μ2 else (if l1 = l2 then K (mI ((-1))) μ2 else (s_X10_isAhead [mO 9 55, mI l2, mI l1] μ2 (fun v3 μ3 => (if (vI v3) = 0 then (vi l1 6 ∧ (vi l1 6 ∧ K (mI 1) (mS μ3 58 l1.toNatClampNeg ((μ3 58 l1.toNatClampNeg) ||| ((1 : Int32) <<< (l2 &&& 31)))))) else K (mI ((-3))) μ3))))))))))) : s_X10_must [mO 9 55, mI l1, mI l2] μ K := seg (pc := 0) (L := [mO 9 55, mI l1, mI l2]) (S := []) m_X10_must [] 35 H
set_option maxRecDepth 100000 in
theorem g_X10_firstRow {μ : Mm} {K : MV → Mm → Prop} {l1 : Int32} (H : Tot e_X10_firstRow K 2 [mO 9 55, mI l1, mI 0] [] μ) : s_X10_firstRow [mO 9 55, mI l1] μ K := seg (pc := 0) (L := [mO 9 55, mI l1, mU]) (S := []) m_X10_firstRow [2] 16 H
set_option maxRecDepth 100000 in
theorem g_X10_firstRow_2 {μ : Mm} {K : MV → Mm → Prop} {l1 : Int32} {l2 : Int32} (H : (if l1 ≤ l2 then K mU μ else (vi l2 8 ∧ Tot e_X10_firstRow K 2 [mO 9 55, mI l1, mI (l2 + 1)] [] (mS μ 63 l2.toNatClampNeg l2)))) : Tot e_X10_firstRow K 2 [mO 9 55, mI l1, mI l2] [] μ := seg (pc := 2) (L := [mO 9 55, mI l1, mI l2]) (S := []) m_X10_firstRow [2] 16 H
set_option maxRecDepth 100000 in
theorem g_X10_change {μ : Mm} {K : MV → Mm → Prop} {l1 : Int32} {l2 : Int32} (H : (vi l1 8 ∧ (vi l2 8 ∧ (vi l1 8 ∧ (vi l2 8 ∧ K mU (mS (mS μ 63 l1.toNatClampNeg (μ 63 l2.toNatClampNeg)) 63 l2.toNatClampNeg (μ 63 l1.toNatClampNeg))))))) : s_X10_change [mO 9 55, mI l1, mI l2] μ K := seg (pc := 0) (L := [mO 9 55, mI l1, mI l2, mU]) (S := []) m_X10_change [] 22 H
set_option maxRecDepth 100000 in
theorem g_X10_nextRow {μ : Mm} {K : MV → Mm → Prop} {l1 : Int32} (H : Tot e_X10_nextRow K 4 [mO 9 55, mI l1, mI (l1 - 2), mU, mU, mU] [] μ) : s_X10_nextRow [mO 9 55, mI l1] μ K := seg (pc := 0) (L := [mO 9 55, mI l1, mU, mU, mU, mU]) (S := []) m_X10_nextRow [4, 41, 78] 65 H
set_option maxRecDepth 100000 in
theorem g_X10_nextRow_4 {μ : Mm} {K : MV → Mm → Prop} {l1 : Int32} {l2 : Int32} (H : (if l2 < 0 then (if 0 ≤ l2 then Tot e_X10_nextRow K 41 [mO 9 55, mI l1, mI l2, mI (l1 - 1), mU, mU] [] μ else (zb 0 ∧ K (mI 0) μ)) else (vi l2 8 ∧ (vi (l2 + 1) 8 ∧ (if (μ 63 l2.toNatClampNeg) ≤ (μ 63 (l2 + 1).toNatClampNeg) then (if 0 ≤ l2 then Tot e_X10_nextRow K 41 [mO 9 55, mI l1, mI l2, mI (l1 - 1), mU, mU] [] μ else (zb 0 ∧ K (mI 0) μ)) else Tot e_X10_nextRow K 4 [mO 9 55, mI l1, mI (l2 + (-1)), mU, mU, mU] [] μ))))) : Tot e_X10_nextRow K 4 [mO 9 55, mI l1, mI l2, mU, mU, mU] [] μ := seg (pc := 4) (L := [mO 9 55, mI l1, mI l2, mU, mU, mU]) (S := []) m_X10_nextRow [4, 41, 78] 65 H
set_option maxRecDepth 100000 in
theorem g_X10_nextRow_41 {μ : Mm} {K : MV → Mm → Prop} {l1 : Int32} {l2 : Int32} {l3 : Int32} (H : (vi l3 8 ∧ (vi l2 8 ∧ (if (μ 63 l2.toNatClampNeg) ≤ (μ 63 l3.toNatClampNeg) then (s_X10_change [mO 9 55, mI l2, mI l3] μ (fun v1 μ1 => Tot e_X10_nextRow K 78 [mO 9 55, mI l1, mI l2, mI l3, mI (l2 + 1), mI (l1 - 1)] [] μ1)) else Tot e_X10_nextRow K 41 [mO 9 55, mI l1, mI l2, mI (l3 + (-1)), mU, mU] [] μ)))) : Tot e_X10_nextRow K 41 [mO 9 55, mI l1, mI l2, mI l3, mU, mU] [] μ := seg (pc := 41) (L := [mO 9 55, mI l1, mI l2, mI l3, mU, mU]) (S := []) m_X10_nextRow [4, 41, 78] 65 H
set_option maxRecDepth 100000 in
theorem g_X10_nextRow_78 {μ : Mm} {K : MV → Mm → Prop} {l1 : Int32} {l2 : Int32} {l3 : Int32} {l4 : Int32} {l5 : Int32} (H : (if l5 ≤ l4 then (zb 1 ∧ K (mI 1) μ) else (s_X10_change [mO 9 55, mI l4, mI l5] μ (fun v1 μ1 => Tot e_X10_nextRow K 78 [mO 9 55, mI l1, mI l2, mI l3, mI (l4 + 1), mI (l5 + (-1))] [] μ1)))) : Tot e_X10_nextRow K 78 [mO 9 55, mI l1, mI l2, mI l3, mI l4, mI l5] [] μ := seg (pc := 78) (L := [mO 9 55, mI l1, mI l2, mI l3, mI l4, mI l5]) (S := []) m_X10_nextRow [4, 41, 78] 65 H
set_option maxRecDepth 100000 in
theorem g_X10_keepsMust {μ : Mm} {K : MV → Mm → Prop}  (H : Tot e_X10_keepsMust K 6 [mO 9 55, mI 1, mI 0, mI 0] [] μ) : s_X10_keepsMust [mO 9 55] μ K := seg (pc := 0) (L := [mO 9 55, mU, mU, mU]) (S := []) m_X10_keepsMust [6] 42 H
set_option maxRecDepth 100000 in
theorem g_X10_keepsMust_6 {μ : Mm} {K : MV → Mm → Prop} {l1 : Int32} {l2 : Int32} {l3 : Int32} (H : (if (μ 55 0) ≤ l3 then (zb l1 ∧ K (mI l1) μ) else (vi l3 8 ∧ (if l1 = 0 then Tot e_X10_keepsMust K 6 [mO 9 55, mI 0, mI (l2 ||| ((1 : Int32) <<< ((μ 63 l3.toNatClampNeg) &&& 31))), mI (l3 + 1)] [] μ else (vi l3 8 ∧ (vi (μ 63 l3.toNatClampNeg) 6 ∧ (if ((μ 58 (μ 63 l3.toNatClampNeg).toNatClampNeg) &&& (l2 ||| ((1 : Int32) <<< ((μ 63 l3.toNatClampNeg) &&& 31)))) = 0 then Tot e_X10_keepsMust K 6 [mO 9 55, mI 1, mI (l2 ||| ((1 : Int32) <<< ((μ 63 l3.toNatClampNeg) &&& 31))), mI (l3 + 1)] [] μ else Tot e_X10_keepsMust K 6 [mO 9 55, mI 0, mI (l2 ||| ((1 : Int32) <<< ((μ 63 l3.toNatClampNeg) &&& 31))), mI (l3 + 1)] [] μ))))))) : Tot e_X10_keepsMust K 6 [mO 9 55, mI l1, mI l2, mI l3] [] μ := seg (pc := 6) (L := [mO 9 55, mI l1, mI l2, mI l3]) (S := []) m_X10_keepsMust [6] 42 H
set_option maxRecDepth 100000 in
theorem g_X10_order {μ : Mm} {K : MV → Mm → Prop} {l1 : Int32} (H : Tot e_X10_order K 2 [mO 9 55, mI l1, mI 0, mU, mU, mU] [] μ) : s_X10_order [mO 9 55, mI l1] μ K := seg (pc := 0) (L := [mO 9 55, mI l1, mU, mU, mU, mU]) (S := []) m_X10_order [2, 41, 55, 93, 156] 115 H
set_option maxRecDepth 100000 in
theorem g_X10_order_2 {μ : Mm} {K : MV → Mm → Prop} {l1 : Int32} {l2 : Int32} (H : (if (μ 55 0) ≤ l2 then (s_X10_firstRow [mO 9 55, mI (μ 55 0)] μ (fun v1 μ1 => Tot e_X10_order K 41 [mO 9 55, mI l1, mI ((-6)), mI 1, mU, mU] [] μ1)) else (vi l2 6 ∧ (vi l2 8 ∧ Tot e_X10_order K 2 [mO 9 55, mI l1, mI (l2 + 1), mU, mU, mU] [] (mS μ 64 l2.toNatClampNeg (μ 57 l2.toNatClampNeg)))))) : Tot e_X10_order K 2 [mO 9 55, mI l1, mI l2, mU, mU, mU] [] μ := seg (pc := 2) (L := [mO 9 55, mI l1, mI l2, mU, mU, mU]) (S := []) m_X10_order [2, 41, 55, 93, 156] 115 H
set_option maxRecDepth 100000 in
theorem g_X10_order_41 {μ : Mm} {K : MV → Mm → Prop} {l1 : Int32} {l2 : Int32} {l3 : Int32} {z4 : MV} {z5 : MV} (H : (if l3 = 0 then Tot e_X10_order K 156 [mO 9 55, mI l1, mI l2, mI l3, mI 0, z5] [] μ else (s_X10_keepsMust [mO 9 55] μ (fun v1 μ1 => (if (vI v1) = 0 then (s_X10_nextRow [mO 9 55, mI (μ1 55 0)] μ1 (fun v2 μ2 => Tot e_X10_order K 41 [mO 9 55, mI l1, mI l2, mI (vI v2), z4, z5] [] μ2)) else Tot e_X10_order K 55 [mO 9 55, mI l1, mI l2, mI l3, mI 0, z5] [] μ1))))) : Tot e_X10_order K 41 [mO 9 55, mI l1, mI l2, mI l3, z4, z5] [] μ := seg (pc := 41) (L := [mO 9 55, mI l1, mI l2, mI l3, z4, z5]) (S := []) m_X10_order [2, 41, 55, 93, 156] 115 H
set_option maxRecDepth 100000 in
theorem g_X10_order_55 {μ : Mm} {K : MV → Mm → Prop} {l1 : Int32} {l2 : Int32} {l3 : Int32} {l4 : Int32} {z5 : MV} (H : (if (μ 55 0) ≤ l4 then (s_X10_allTakings [mO 9 55] μ (fun v1 μ1 => Tot e_X10_order K 93 [mO 9 55, mI l1, mI l2, mI l3, mI (vI v1), mI 0] [] μ1)) else (vi l4 8 ∧ (vi l4 6 ∧ Tot e_X10_order K 55 [mO 9 55, mI l1, mI l2, mI l3, mI (l4 + 1), z5] [] (mS μ 57 l4.toNatClampNeg (μ 63 l4.toNatClampNeg)))))) : Tot e_X10_order K 55 [mO 9 55, mI l1, mI l2, mI l3, mI l4, z5] [] μ := seg (pc := 55) (L := [mO 9 55, mI l1, mI l2, mI l3, mI l4, z5]) (S := []) m_X10_order [2, 41, 55, 93, 156] 115 H
set_option maxRecDepth 100000 in
theorem g_X10_order_93 {μ : Mm} {K : MV → Mm → Prop} {l1 : Int32} {l2 : Int32} {l3 : Int32} {l4 : Int32} {l5 : Int32} (H : (if (μ 55 0) ≤ l5 then (if l4 ≤ l2 then (s_X10_nextRow [mO 9 55, mI (μ 55 0)] μ (fun v1 μ1 => Tot e_X10_order K 41 [mO 9 55, mI l1, mI l2, mI (vI v1), mI l4, mI l5] [] μ1)) else (s_X10_nextRow [mO 9 55, mI (μ 55 0)] μ (fun v1 μ1 => Tot e_X10_order K 41 [mO 9 55, mI l1, mI l4, mI (vI v1), mI l4, mI l5] [] μ1))) else (if l4 ≤ l2 then (if l4 ≤ l2 then (s_X10_nextRow [mO 9 55, mI (μ 55 0)] μ (fun v1 μ1 => Tot e_X10_order K 41 [mO 9 55, mI l1, mI l2, mI (vI v1), mI l4, mI l5] [] μ1)) else (s_X10_nextRow [mO 9 55, mI (μ 55 0)] μ (fun v1 μ1 => Tot e_X10_order K 41 [mO 9 55, mI l1, mI l4, mI (vI v1), mI l4, mI l5] [] μ1))) else (vi l5 8 ∧ (vi l5 8 ∧ Tot e_X10_order K 93 [mO 9 55, mI l1, mI l2, mI l3, mI l4, mI (l5 + 1)] [] (mS μ 65 l5.toNatClampNeg (μ 63 l5.toNatClampNeg))))))) : Tot e_X10_order K 93 [mO 9 55, mI l1, mI l2, mI l3, mI l4, mI l5] [] μ := seg (pc := 93) (L := [mO 9 55, mI l1, mI l2, mI l3, mI l4, mI l5]) (S := []) m_X10_order [2, 41, 55, 93, 156] 115 H
set_option maxRecDepth 100000 in
theorem g_X10_order_156 {μ : Mm} {K : MV → Mm → Prop} {l1 : Int32} {l2 : Int32} {l3 : Int32} {l4 : Int32} {z5 : MV} (H : (if (μ 55 0) ≤ l4 then (if l1 = ((-1)) then K (mI l2) μ else (s_X10_isAct [mO 9 55, mI l1] μ (fun v1 μ1 => (if (vI v1) = 0 then K (mI ((-6))) μ1 else (vi l1 8 ∧ K (mI (μ1 65 l1.toNatClampNeg)) μ1))))) else (vi l4 8 ∧ (vi l4 6 ∧ Tot e_X10_order K 156 [mO 9 55, mI l1, mI l2, mI l3, mI (l4 + 1), z5] [] (mS μ 57 l4.toNatClampNeg (μ 64 l4.toNatClampNeg)))))) : Tot e_X10_order K 156 [mO 9 55, mI l1, mI l2, mI l3, mI l4, z5] [] μ := seg (pc := 156) (L := [mO 9 55, mI l1, mI l2, mI l3, mI l4, z5]) (S := []) m_X10_order [2, 41, 55, 93, 156] 115 H
set_option maxRecDepth 100000 in
theorem g_X10_raise {μ : Mm} {K : MV → Mm → Prop} {l1 : Int32} {l2 : Int32} (H : Tot e_X10_raise K 2 [mO 9 55, mI l1, mI l2, mI 0] [] μ) : s_X10_raise [mO 9 55, mI l1, mI l2] μ K := seg (pc := 0) (L := [mO 9 55, mI l1, mI l2, mU]) (S := []) m_X10_raise [2] 23 H
set_option maxRecDepth 100000 in
theorem g_X10_raise_2 {μ : Mm} {K : MV → Mm → Prop} {l1 : Int32} {l2 : Int32} {l3 : Int32} (H : (if 8 ≤ l3 then K mU μ else (vi ((6 * l3) + l1) 48 ∧ (vi ((6 * l3) + l1) 48 ∧ Tot e_X10_raise K 2 [mO 9 55, mI l1, mI l2, mI (l3 + 1)] [] (mS μ 56 ((6 * l3) + l1).toNatClampNeg ((μ 56 ((6 * l3) + l1).toNatClampNeg) + l2)))))) : Tot e_X10_raise K 2 [mO 9 55, mI l1, mI l2, mI l3] [] μ := seg (pc := 2) (L := [mO 9 55, mI l1, mI l2, mI l3]) (S := []) m_X10_raise [2] 23 H
set_option maxRecDepth 100000 in
theorem g_X10_claque {μ : Mm} {K : MV → Mm → Prop} {l1 : Int32} {l2 : Int32} (H : (s_X10_in [mI l1, mI 1, mI 25] μ (fun v1 μ1 => (if (vI v1) = 0 then K (mI ((-2))) μ1 else (s_X10_in [mI l2, mI 0, mI 1] μ1 (fun v2 μ2 => (if (vI v2) = 0 then K (mI ((-2))) μ2 else Tot e_X10_claque K 32 [mO 9 55, mI l1, mI l2, mI ((-6)), mI ((-6)), mI 0, mU] [] μ2))))))) : s_X10_claque [mO 9 55, mI l1, mI l2] μ K := seg (pc := 0) (L := [mO 9 55, mI l1, mI l2, mU, mU, mU, mU]) (S := []) m_X10_claque [32] 59 H
set_option maxRecDepth 100000 in
theorem g_X10_claque_32 {μ : Mm} {K : MV → Mm → Prop} {l1 : Int32} {l2 : Int32} {l3 : Int32} {l4 : Int32} {l5 : Int32} {z6 : MV} (H : (if (μ 55 0) ≤ l5 then (if l2 = 0 then K (mI l4) μ else K (mI l3) μ) else (s_X10_raise [mO 9 55, mI l5, mI l1] μ (fun v1 μ1 => (s_X10_allTakings [mO 9 55] μ1 (fun v2 μ2 => (s_X10_raise [mO 9 55, mI l5, mI (-l1)] μ2 (fun v3 μ3 => (if (vI v2) ≤ l3 then (if (vI v2) ≤ l3 then Tot e_X10_claque K 32 [mO 9 55, mI l1, mI l2, mI l3, mI l4, mI (l5 + 1), mI (vI v2)] [] μ3 else Tot e_X10_claque K 32 [mO 9 55, mI l1, mI l2, mI (vI v2), mI l4, mI (l5 + 1), mI (vI v2)] [] μ3) else (if (vI v2) ≤ l3 then Tot e_X10_claque K 32 [mO 9 55, mI l1, mI l2, mI l3, mI l5, mI (l5 + 1), mI (vI v2)] [] μ3 else Tot e_X10_claque K 32 [mO 9 55, mI l1, mI l2, mI (vI v2), mI l5, mI (l5 + 1), mI (vI v2)] [] μ3)))))))))) : Tot e_X10_claque K 32 [mO 9 55, mI l1, mI l2, mI l3, mI l4, mI l5, z6] [] μ := seg (pc := 32) (L := [mO 9 55, mI l1, mI l2, mI l3, mI l4, mI l5, z6]) (S := []) m_X10_claque [32] 59 H
set_option maxRecDepth 100000 in
theorem g_X10_friends {μ : Mm} {K : MV → Mm → Prop} {l1 : Int32} {l2 : Int32} (H : (s_X10_in [mI l1, mI 0, mI 7] μ (fun v1 μ1 => (if (vI v1) = 0 then K (mI ((-1))) μ1 else (s_X10_in [mI l2, mI 0, mI 7] μ1 (fun v2 μ2 => (if (vI v2) = 0 then K (mI ((-1))) μ2 else (if l1 = l2 then K (mI ((-1))) μ2 else (vi l1 8 ∧ (vi l1 8 ∧ (vi l2 8 ∧ (vi l2 8 ∧ K (mI 1) (mS (mS μ2 60 l1.toNatClampNeg ((μ2 60 l1.toNatClampNeg) ||| ((1 : Int32) <<< (l2 &&& 31)))) 60 l2.toNatClampNeg (((mS μ2 60 l1.toNatClampNeg ((μ2 60 l1.toNatClampNeg) ||| ((1 : Int32) <<< (l2 &&& 31)))) 60 l2.toNatClampNeg) ||| ((1 : Int32) <<< (l1 &&& 31)))))))))))))))) : s_X10_friends [mO 9 55, mI l1, mI l2] μ K := seg (pc := 0) (L := [mO 9 55, mI l1, mI l2]) (S := []) m_X10_friends [] 40 H
set_option maxRecDepth 100000 in
theorem g_X10_keepsFriends {μ : Mm} {K : MV → Mm → Prop} {l1 : Int32} (H : Tot e_X10_keepsFriends K 4 [mO 9 55, mI l1, mI 1, mI 0, mU, mU] [] μ) : s_X10_keepsFriends [mO 9 55, mI l1] μ K := seg (pc := 0) (L := [mO 9 55, mI l1, mU, mU, mU, mU]) (S := []) m_X10_keepsFriends [4] 77 H
set_option maxRecDepth 100000 in
theorem g_X10_keepsFriends_4 {μ : Mm} {K : MV → Mm → Prop} {l1 : Int32} {l2 : Int32} {l3 : Int32} {z4 : MV} {z5 : MV} (H : (if l1 ≤ l3 then (zb l2 ∧ K (mI l2) μ) else (vi l3 8 ∧ (vi (μ 63 l3.toNatClampNeg) 8 ∧ (if l3 ≤ 0 then (if l1 ≤ (l3 + 1) then (if l2 = 0 then Tot e_X10_keepsFriends K 4 [mO 9 55, mI l1, mI 0, mI (l3 + 1), mI (μ 66 (μ 63 l3.toNatClampNeg).toNatClampNeg), mI (0 ||| 0)] [] μ else (vi (μ 66 (μ 63 l3.toNatClampNeg).toNatClampNeg) 8 ∧ (if (((μ 60 (μ 66 (μ 63 l3.toNatClampNeg).toNatClampNeg).toNatClampNeg) &&& (μ 55 1)) &&& ((0 ||| 0) ^^^ ((-1)))) = 0 then Tot e_X10_keepsFriends K 4 [mO 9 55, mI l1, mI 1, mI (l3 + 1), mI (μ 66 (μ 63 l3.toNatClampNeg).toNatClampNeg), mI (0 ||| 0)] [] μ else Tot e_X10_keepsFriends K 4 [mO 9 55, mI l1, mI 0, mI (l3 + 1), mI (μ 66 (μ 63 l3.toNatClampNeg).toNatClampNeg), mI (0 ||| 0)] [] μ))) else (vi (l3 + 1) 8 ∧ (vi (μ 63 (l3 + 1).toNatClampNeg) 8 ∧ (if l2 = 0 then Tot e_X10_keepsFriends K 4 [mO 9 55, mI l1, mI 0, mI (l3 + 1), mI (μ 66 (μ 63 l3.toNatClampNeg).toNatClampNeg), mI (0 ||| ((1 : Int32) <<< ((μ 66 (μ 63 (l3 + 1).toNatClampNeg).toNatClampNeg) &&& 31)))] [] μ else (vi (μ 66 (μ 63 l3.toNatClampNeg).toNatClampNeg) 8 ∧ (if (((μ 60 (μ 66 (μ 63 l3.toNatClampNeg).toNatClampNeg).toNatClampNeg) &&& (μ 55 1)) &&& ((0 ||| ((1 : Int32) <<< ((μ 66 (μ 63 (l3 + 1).toNatClampNeg).toNatClampNeg) &&& 31))) ^^^ ((-1)))) = 0 then Tot e_X10_keepsFriends K 4 [mO 9 55, mI l1, mI 1, mI (l3 + 1), mI (μ 66 (μ 63 l3.toNatClampNeg).toNatClampNeg), mI (0 ||| ((1 : Int32) <<< ((μ 66 (μ 63 (l3 + 1).toNatClampNeg).toNatClampNeg) &&& 31)))] [] μ else Tot e_X10_keepsFriends K 4 [mO 9 55, mI l1, mI 0, mI (l3 + 1), mI (μ 66 (μ 63 l3.toNatClampNeg).toNatClampNeg), mI (0 ||| ((1 : Int32) <<< ((μ 66 (μ 63 (l3 + 1).toNatClampNeg).toNatClampNeg) &&& 31)))] [] μ)))))) else (vi (l3 - 1) 8 ∧ (vi (μ 63 (l3 - 1).toNatClampNeg) 8 ∧ (if l1 ≤ (l3 + 1) then (if l2 = 0 then Tot e_X10_keepsFriends K 4 [mO 9 55, mI l1, mI 0, mI (l3 + 1), mI (μ 66 (μ 63 l3.toNatClampNeg).toNatClampNeg), mI (((1 : Int32) <<< ((μ 66 (μ 63 (l3 - 1).toNatClampNeg).toNatClampNeg) &&& 31)) ||| 0)] [] μ else (vi (μ 66 (μ 63 l3.toNatClampNeg).toNatClampNeg) 8 ∧ (if (((μ 60 (μ 66 (μ 63 l3.toNatClampNeg).toNatClampNeg).toNatClampNeg) &&& (μ 55 1)) &&& ((((1 : Int32) <<< ((μ 66 (μ 63 (l3 - 1).toNatClampNeg).toNatClampNeg) &&& 31)) ||| 0) ^^^ ((-1)))) = 0 then Tot e_X10_keepsFriends K 4 [mO 9 55, mI l1, mI 1, mI (l3 + 1), mI (μ 66 (μ 63 l3.toNatClampNeg).toNatClampNeg), mI (((1 : Int32) <<< ((μ 66 (μ 63 (l3 - 1).toNatClampNeg).toNatClampNeg) &&& 31)) ||| 0)] [] μ else Tot e_X10_keepsFriends K 4 [mO 9 55, mI l1, mI 0, mI (l3 + 1), mI (μ 66 (μ 63 l3.toNatClampNeg).toNatClampNeg), mI (((1 : Int32) <<< ((μ 66 (μ 63 (l3 - 1).toNatClampNeg).toNatClampNeg) &&& 31)) ||| 0)] [] μ))) else (vi (l3 + 1) 8 ∧ (vi (μ 63 (l3 + 1).toNatClampNeg) 8 ∧ (if l2 = 0 then Tot e_X10_keepsFriends K 4 [mO 9 55, mI l1, mI 0, mI (l3 + 1), mI (μ 66 (μ 63 l3.toNatClampNeg).toNatClampNeg), mI (((1 : Int32) <<< ((μ 66 (μ 63 (l3 - 1).toNatClampNeg).toNatClampNeg) &&& 31)) ||| ((1 : Int32) <<< ((μ 66 (μ 63 (l3 + 1).toNatClampNeg).toNatClampNeg) &&& 31)))] [] μ else (vi (μ 66 (μ 63 l3.toNatClampNeg).toNatClampNeg) 8 ∧ (if (((μ 60 (μ 66 (μ 63 l3.toNatClampNeg).toNatClampNeg).toNatClampNeg) &&& (μ 55 1)) &&& ((((1 : Int32) <<< ((μ 66 (μ 63 (l3 - 1).toNatClampNeg).toNatClampNeg) &&& 31)) ||| ((1 : Int32) <<< ((μ 66 (μ 63 (l3 + 1).toNatClampNeg).toNatClampNeg) &&& 31))) ^^^ ((-1)))) = 0 then Tot e_X10_keepsFriends K 4 [mO 9 55, mI l1, mI 1, mI (l3 + 1), mI (μ 66 (μ 63 l3.toNatClampNeg).toNatClampNeg), mI (((1 : Int32) <<< ((μ 66 (μ 63 (l3 - 1).toNatClampNeg).toNatClampNeg) &&& 31)) ||| ((1 : Int32) <<< ((μ 66 (μ 63 (l3 + 1).toNatClampNeg).toNatClampNeg) &&& 31)))] [] μ else Tot e_X10_keepsFriends K 4 [mO 9 55, mI l1, mI 0, mI (l3 + 1), mI (μ 66 (μ 63 l3.toNatClampNeg).toNatClampNeg), mI (((1 : Int32) <<< ((μ 66 (μ 63 (l3 - 1).toNatClampNeg).toNatClampNeg) &&& 31)) ||| ((1 : Int32) <<< ((μ 66 (μ 63 (l3 + 1).toNatClampNeg).toNatClampNeg) &&& 31)))] [] μ))))))))))))) : Tot e_X10_keepsFriends K 4 [mO 9 55, mI l1, mI l2, mI l3, z4, z5] [] μ := seg (pc := 4) (L := [mO 9 55, mI l1, mI l2, mI l3, z4, z5]) (S := []) m_X10_keepsFriends [4] 77 H
set_option maxRecDepth 100000 in
theorem g_X10_risen {μ : Mm} {K : MV → Mm → Prop} {l1 : Int32} (H : Tot e_X10_risen K 4 [mO 9 55, mI l1, mI 0, mI 0, mU, mU, mU, mU] [] μ) : s_X10_risen [mO 9 55, mI l1] μ K := seg (pc := 0) (L := [mO 9 55, mI l1, mU, mU, mU, mU, mU, mU]) (S := []) m_X10_risen [4, 31] 84 H
set_option maxRecDepth 100000 in
theorem g_X10_risen_4 {μ : Mm} {K : MV → Mm → Prop} {l1 : Int32} {l2 : Int32} {l3 : Int32} {z4 : MV} {z5 : MV} {z6 : MV} {z7 : MV} (H : (if l1 ≤ l3 then K (mI l2) μ else (vi l3 8 ∧ (vi (μ 63 l3.toNatClampNeg) 8 ∧ Tot e_X10_risen K 31 [mO 9 55, mI l1, mI l2, mI l3, mI 0, mI 0, mI (μ 67 (μ 63 l3.toNatClampNeg).toNatClampNeg), mI 0] [] μ)))) : Tot e_X10_risen K 4 [mO 9 55, mI l1, mI l2, mI l3, z4, z5, z6, z7] [] μ := seg (pc := 4) (L := [mO 9 55, mI l1, mI l2, mI l3, z4, z5, z6, z7]) (S := []) m_X10_risen [4, 31] 84 H
set_option maxRecDepth 100000 in
theorem g_X10_risen_31 {μ : Mm} {K : MV → Mm → Prop} {l1 : Int32} {l2 : Int32} {l3 : Int32} {l4 : Int32} {l5 : Int32} {l6 : Int32} {l7 : Int32} (H : (if l1 ≤ l7 then (if l6 = (μ 55 0) then Tot e_X10_risen K 4 [mO 9 55, mI l1, mI (l2 + 0), mI (l3 + 1), mI l4, mI l5, mI l6, mI l7] [] μ else (if l5 ≤ l4 then Tot e_X10_risen K 4 [mO 9 55, mI l1, mI (l2 + l5), mI (l3 + 1), mI l4, mI l5, mI l6, mI l7] [] μ else Tot e_X10_risen K 4 [mO 9 55, mI l1, mI (l2 + l4), mI (l3 + 1), mI l4, mI l5, mI l6, mI l7] [] μ)) else (if l3 ≤ l7 then (if l7 ≤ l3 then Tot e_X10_risen K 31 [mO 9 55, mI l1, mI l2, mI l3, mI (l4 + 0), mI (l5 + 0), mI l6, mI (l7 + 1)] [] μ else (vi l7 8 ∧ (vi (μ 63 l7.toNatClampNeg) 8 ∧ (if (μ 67 (μ 63 l7.toNatClampNeg).toNatClampNeg) ≤ l6 then Tot e_X10_risen K 31 [mO 9 55, mI l1, mI l2, mI l3, mI (l4 + 0), mI (l5 + 0), mI l6, mI (l7 + 1)] [] μ else Tot e_X10_risen K 31 [mO 9 55, mI l1, mI l2, mI l3, mI (l4 + 0), mI (l5 + 1), mI l6, mI (l7 + 1)] [] μ)))) else (vi l7 8 ∧ (vi (μ 63 l7.toNatClampNeg) 8 ∧ (if (μ 67 (μ 63 l7.toNatClampNeg).toNatClampNeg) ≤ l6 then (if l7 ≤ l3 then Tot e_X10_risen K 31 [mO 9 55, mI l1, mI l2, mI l3, mI (l4 + 0), mI (l5 + 0), mI l6, mI (l7 + 1)] [] μ else (vi l7 8 ∧ (vi (μ 63 l7.toNatClampNeg) 8 ∧ (if (μ 67 (μ 63 l7.toNatClampNeg).toNatClampNeg) ≤ l6 then Tot e_X10_risen K 31 [mO 9 55, mI l1, mI l2, mI l3, mI (l4 + 0), mI (l5 + 0), mI l6, mI (l7 + 1)] [] μ else Tot e_X10_risen K 31 [mO 9 55, mI l1, mI l2, mI l3, mI (l4 + 0), mI (l5 + 1), mI l6, mI (l7 + 1)] [] μ)))) else (if l7 ≤ l3 then Tot e_X10_risen K 31 [mO 9 55, mI l1, mI l2, mI l3, mI (l4 + 1), mI (l5 + 0), mI l6, mI (l7 + 1)] [] μ else (vi l7 8 ∧ (vi (μ 63 l7.toNatClampNeg) 8 ∧ (if (μ 67 (μ 63 l7.toNatClampNeg).toNatClampNeg) ≤ l6 then Tot e_X10_risen K 31 [mO 9 55, mI l1, mI l2, mI l3, mI (l4 + 1), mI (l5 + 0), mI l6, mI (l7 + 1)] [] μ else Tot e_X10_risen K 31 [mO 9 55, mI l1, mI l2, mI l3, mI (l4 + 1), mI (l5 + 1), mI l6, mI (l7 + 1)] [] μ)))))))))) : Tot e_X10_risen K 31 [mO 9 55, mI l1, mI l2, mI l3, mI l4, mI l5, mI l6, mI l7] [] μ := seg (pc := 31) (L := [mO 9 55, mI l1, mI l2, mI l3, mI l4, mI l5, mI l6, mI l7]) (S := []) m_X10_risen [4, 31] 84 H
set_option maxRecDepth 100000 in
theorem g_X10_seating {μ : Mm} {K : MV → Mm → Prop} {l1 : Int32} (H : Tot e_X10_seating K 4 [mO 9 55, mI l1, mI 0, mI 0, mU, mU, mU, mU] [] μ) : s_X10_seating [mO 9 55, mI l1] μ K := seg (pc := 0) (L := [mO 9 55, mI l1, mU, mU, mU, mU, mU, mU]) (S := []) m_X10_seating [4, 59, 99] 108 H
set_option maxRecDepth 100000 in
theorem g_X10_seating_4 {μ : Mm} {K : MV → Mm → Prop} {l1 : Int32} {l2 : Int32} {l3 : Int32} (H : (if 8 ≤ l3 then (s_X10_firstRow [mO 9 55, mI l2] μ (fun v1 μ1 => Tot e_X10_seating K 59 [mO 9 55, mI l1, mI l2, mI ((-6)), mI 1, mU, mU, mU] [] μ1)) else (s_X10_has [mI (μ 55 1), mI l3] μ (fun v1 μ1 => (if (vI v1) = 0 then Tot e_X10_seating K 4 [mO 9 55, mI l1, mI l2, mI (l3 + 1), mU, mU, mU, mU] [] μ1 else (vi l2 8 ∧ (s_X10_leavesAt [mO 9 55, mI l3] (mS μ1 66 l2.toNatClampNeg l3) (fun v2 μ2 => (vi l2 8 ∧ Tot e_X10_seating K 4 [mO 9 55, mI l1, mI (l2 + 1), mI (l3 + 1), mU, mU, mU, mU] [] (mS μ2 67 l2.toNatClampNeg (vI v2))))))))))) : Tot e_X10_seating K 4 [mO 9 55, mI l1, mI l2, mI l3, mU, mU, mU, mU] [] μ := seg (pc := 4) (L := [mO 9 55, mI l1, mI l2, mI l3, mU, mU, mU, mU]) (S := []) m_X10_seating [4, 59, 99] 108 H
set_option maxRecDepth 100000 in
theorem g_X10_seating_59 {μ : Mm} {K : MV → Mm → Prop} {l1 : Int32} {l2 : Int32} {l3 : Int32} {l4 : Int32} {z5 : MV} {z6 : MV} {z7 : MV} (H : (if l4 = 0 then (if l1 = ((-1)) then K (mI l3) μ else (if 0 ≤ l3 then (s_X10_in [mI l1, mI 0, mI (l2 - 1)] μ (fun v1 μ1 => (if (vI v1) = 0 then K (mI ((-6))) μ1 else (vi l1 8 ∧ K (mI (μ1 65 l1.toNatClampNeg)) μ1)))) else K (mI l3) μ)) else (s_X10_risen [mO 9 55, mI l2] μ (fun v1 μ1 => (if l3 < 0 then (s_X10_keepsFriends [mO 9 55, mI l2] μ1 (fun v2 μ2 => (if (vI v2) = 0 then Tot e_X10_seating K 99 [mO 9 55, mI l1, mI l2, mI l3, mI l4, mI (vI v1), mI 0, mI 0] [] μ2 else Tot e_X10_seating K 99 [mO 9 55, mI l1, mI l2, mI l3, mI l4, mI (vI v1), mI 1, mI 0] [] μ2))) else (if l3 ≤ (vI v1) then Tot e_X10_seating K 99 [mO 9 55, mI l1, mI l2, mI l3, mI l4, mI (vI v1), mI 0, mI 0] [] μ1 else (s_X10_keepsFriends [mO 9 55, mI l2] μ1 (fun v2 μ2 => (if (vI v2) = 0 then Tot e_X10_seating K 99 [mO 9 55, mI l1, mI l2, mI l3, mI l4, mI (vI v1), mI 0, mI 0] [] μ2 else Tot e_X10_seating K 99 [mO 9 55, mI l1, mI l2, mI l3, mI l4, mI (vI v1), mI 1, mI 0] [] μ2))))))))) : Tot e_X10_seating K 59 [mO 9 55, mI l1, mI l2, mI l3, mI l4, z5, z6, z7] [] μ := seg (pc := 59) (L := [mO 9 55, mI l1, mI l2, mI l3, mI l4, z5, z6, z7]) (S := []) m_X10_seating [4, 59, 99] 108 H
set_option maxRecDepth 100000 in
theorem g_X10_seating_99 {μ : Mm} {K : MV → Mm → Prop} {l1 : Int32} {l2 : Int32} {l3 : Int32} {l4 : Int32} {l5 : Int32} {l6 : Int32} {l7 : Int32} (H : (if l2 ≤ l7 then (if l6 = 0 then (s_X10_nextRow [mO 9 55, mI l2] μ (fun v1 μ1 => Tot e_X10_seating K 59 [mO 9 55, mI l1, mI l2, mI l3, mI (vI v1), mI l5, mI l6, mI l7] [] μ1)) else (s_X10_nextRow [mO 9 55, mI l2] μ (fun v1 μ1 => Tot e_X10_seating K 59 [mO 9 55, mI l1, mI l2, mI l5, mI (vI v1), mI l5, mI l6, mI l7] [] μ1))) else (if l6 = 0 then (if l6 = 0 then (s_X10_nextRow [mO 9 55, mI l2] μ (fun v1 μ1 => Tot e_X10_seating K 59 [mO 9 55, mI l1, mI l2, mI l3, mI (vI v1), mI l5, mI l6, mI l7] [] μ1)) else (s_X10_nextRow [mO 9 55, mI l2] μ (fun v1 μ1 => Tot e_X10_seating K 59 [mO 9 55, mI l1, mI l2, mI l5, mI (vI v1), mI l5, mI l6, mI l7] [] μ1))) else (vi l7 8 ∧ (vi (μ 63 l7.toNatClampNeg) 8 ∧ (vi l7 8 ∧ Tot e_X10_seating K 99 [mO 9 55, mI l1, mI l2, mI l3, mI l4, mI l5, mI l6, mI (l7 + 1)] [] (mS μ 65 l7.toNatClampNeg (μ 66 (μ 63 l7.toNatClampNeg).toNatClampNeg)))))))) : Tot e_X10_seating K 99 [mO 9 55, mI l1, mI l2, mI l3, mI l4, mI l5, mI l6, mI l7] [] μ := seg (pc := 99) (L := [mO 9 55, mI l1, mI l2, mI l3, mI l4, mI l5, mI l6, mI l7]) (S := []) m_X10_seating [4, 59, 99] 108 H
set_option maxRecDepth 100000 in
theorem g_X10_other {μ : Mm} {K : MV → Mm → Prop} {l1 : Int32} {l2 : Int32} (H : (s_X10_isAct [mO 9 55, mI l1] μ (fun v1 μ1 => (if (vI v1) = 0 then K (mI ((-1))) μ1 else (s_X10_in [mI l2, mI 0, mI 25] μ1 (fun v2 μ2 => (if (vI v2) = 0 then K (mI ((-2))) μ2 else (vi l1 6 ∧ (vi l1 6 ∧ K (mI (μ2 59 l1.toNatClampNeg)) (mS μ2 59 l1.toNatClampNeg l2)))))))))) : s_X10_other [mO 9 55, mI l1, mI l2] μ K := seg (pc := 0) (L := [mO 9 55, mI l1, mI l2, mU]) (S := []) m_X10_other [] 28 H
set_option maxRecDepth 100000 in
theorem g_X10_goOver {μ : Mm} {K : MV → Mm → Prop} {l1 : Int32} (H : Tot e_X10_goOver K 8 [mO 9 55, mI l1, mI ((-1000000)), mI 0, mI 0, mU, mU, mU] [] μ) : s_X10_goOver [mO 9 55, mI l1] μ K := seg (pc := 0) (L := [mO 9 55, mI l1, mU, mU, mU, mU, mU, mU]) (S := []) m_X10_goOver [8, 55] 89 H
set_option maxRecDepth 100000 in
theorem g_X10_goOver_8 {μ : Mm} {K : MV → Mm → Prop} {l1 : Int32} {l2 : Int32} {l3 : Int32} {l4 : Int32} {z5 : MV} {z6 : MV} {z7 : MV} (H : (if (μ 55 0) < l4 then K mU μ else (if l4 ≤ 0 then Tot e_X10_goOver K 55 [mO 9 55, mI l1, mI l2, mI (l3 + 0), mI l4, mI 0, mI l4, z7] [] μ else (vi (l4 - 1) 6 ∧ (vi ((6 * l1) + (μ 57 (l4 - 1).toNatClampNeg)) 48 ∧ Tot e_X10_goOver K 55 [mO 9 55, mI l1, mI l2, mI (l3 + (μ 56 ((6 * l1) + (μ 57 (l4 - 1).toNatClampNeg)).toNatClampNeg)), mI l4, mI 0, mI l4, z7] [] μ))))) : Tot e_X10_goOver K 8 [mO 9 55, mI l1, mI l2, mI l3, mI l4, z5, z6, z7] [] μ := seg (pc := 8) (L := [mO 9 55, mI l1, mI l2, mI l3, mI l4, z5, z6, z7]) (S := []) m_X10_goOver [8, 55] 89 H
set_option maxRecDepth 100000 in
theorem g_X10_goOver_55 {μ : Mm} {K : MV → Mm → Prop} {l1 : Int32} {l2 : Int32} {l3 : Int32} {l4 : Int32} {l5 : Int32} {l6 : Int32} {z7 : MV} (H : (if (μ 55 0) < l6 then Tot e_X10_goOver K 8 [mO 9 55, mI l1, mI l2, mI l3, mI (l4 + 1), mI l5, mI l6, z7] [] μ else (if l6 ≤ l4 then (s_X10_faresOf [mO 9 55, mI (μ 55 2), mI l4] μ (fun v1 μ1 => (s_X10_faresOf [mO 9 55, mI (μ1 55 5), mI (l6 - l4)] μ1 (fun v2 μ2 => (if (((l3 + (l5 + 0)) - (vI v1)) - (vI v2)) ≤ l2 then Tot e_X10_goOver K 55 [mO 9 55, mI l1, mI l2, mI l3, mI l4, mI (l5 + 0), mI (l6 + 1), mI (((l3 + (l5 + 0)) - (vI v1)) - (vI v2))] [] μ2 else Tot e_X10_goOver K 55 [mO 9 55, mI l1, mI (((l3 + (l5 + 0)) - (vI v1)) - (vI v2)), mI l3, mI l4, mI (l5 + 0), mI (l6 + 1), mI (((l3 + (l5 + 0)) - (vI v1)) - (vI v2))] [] (mS (mS μ2 55 21 l4) 55 22 l6)))))) else (vi (l6 - 1) 6 ∧ (s_X10_faresOf [mO 9 55, mI (μ 55 2), mI l4] μ (fun v1 μ1 => (s_X10_faresOf [mO 9 55, mI (μ1 55 5), mI (l6 - l4)] μ1 (fun v2 μ2 => (if (((l3 + (l5 + (μ 59 (l6 - 1).toNatClampNeg))) - (vI v1)) - (vI v2)) ≤ l2 then Tot e_X10_goOver K 55 [mO 9 55, mI l1, mI l2, mI l3, mI l4, mI (l5 + (μ 59 (l6 - 1).toNatClampNeg)), mI (l6 + 1), mI (((l3 + (l5 + (μ 59 (l6 - 1).toNatClampNeg))) - (vI v1)) - (vI v2))] [] μ2 else Tot e_X10_goOver K 55 [mO 9 55, mI l1, mI (((l3 + (l5 + (μ 59 (l6 - 1).toNatClampNeg))) - (vI v1)) - (vI v2)), mI l3, mI l4, mI (l5 + (μ 59 (l6 - 1).toNatClampNeg)), mI (l6 + 1), mI (((l3 + (l5 + (μ 59 (l6 - 1).toNatClampNeg))) - (vI v1)) - (vI v2))] [] (mS (mS μ2 55 21 l4) 55 22 l6)))))))))) : Tot e_X10_goOver K 55 [mO 9 55, mI l1, mI l2, mI l3, mI l4, mI l5, mI l6, z7] [] μ := seg (pc := 55) (L := [mO 9 55, mI l1, mI l2, mI l3, mI l4, mI l5, mI l6, z7]) (S := []) m_X10_goOver [8, 55] 89 H
set_option maxRecDepth 100000 in
theorem g_X10_over {μ : Mm} {K : MV → Mm → Prop} {l1 : Int32} {l2 : Int32} (H : (s_X10_comes [mO 9 55, mI l1] μ (fun v1 μ1 => (if (vI v1) = 0 then K (mI ((-1))) μ1 else (s_X10_in [mI l2, mI 0, mI 1] μ1 (fun v2 μ2 => (if (vI v2) = 0 then K (mI ((-2))) μ2 else (s_X10_goOver [mO 9 55, mI l1] μ2 (fun v3 μ3 => (if l2 = 0 then K (mI (μ3 55 21)) μ3 else K (mI (μ3 55 22)) μ3)))))))))) : s_X10_over [mO 9 55, mI l1, mI l2] μ K := seg (pc := 0) (L := [mO 9 55, mI l1, mI l2]) (S := []) m_X10_over [] 27 H
set_option maxRecDepth 100000 in
theorem g_X10_takenBy {μ : Mm} {K : MV → Mm → Prop} {l1 : Int32} (H : Tot e_X10_takenBy K 4 [mO 9 55, mI l1, mI 0, mI 0] [] μ) : s_X10_takenBy [mO 9 55, mI l1] μ K := seg (pc := 0) (L := [mO 9 55, mI l1, mU, mU]) (S := []) m_X10_takenBy [4] 43 H
set_option maxRecDepth 100000 in
theorem g_X10_takenBy_4 {μ : Mm} {K : MV → Mm → Prop} {l1 : Int32} {l2 : Int32} {l3 : Int32} (H : (if 8 ≤ l3 then K (mI l2) μ else (s_X10_has [mI (μ 55 1), mI l3] μ (fun v1 μ1 => (if (vI v1) = 0 then Tot e_X10_takenBy K 4 [mO 9 55, mI l1, mI l2, mI (l3 + 1)] [] μ1 else (s_X10_goOver [mO 9 55, mI l3] μ1 (fun v2 μ2 => (if l1 = 0 then (s_X10_faresOf [mO 9 55, mI (μ2 55 2), mI (μ2 55 21)] μ2 (fun v3 μ3 => Tot e_X10_takenBy K 4 [mO 9 55, mI l1, mI (l2 + (vI v3)), mI (l3 + 1)] [] μ3)) else (s_X10_faresOf [mO 9 55, mI (μ2 55 5), mI ((μ2 55 22) - (μ2 55 21))] μ2 (fun v3 μ3 => Tot e_X10_takenBy K 4 [mO 9 55, mI l1, mI (l2 + (vI v3)), mI (l3 + 1)] [] μ3)))))))))) : Tot e_X10_takenBy K 4 [mO 9 55, mI l1, mI l2, mI l3] [] μ := seg (pc := 4) (L := [mO 9 55, mI l1, mI l2, mI l3]) (S := []) m_X10_takenBy [4] 43 H
set_option maxRecDepth 100000 in
theorem g_X10_both {μ : Mm} {K : MV → Mm → Prop} {l1 : Int32} (H : (s_X10_in [mI l1, mI 0, mI 1] μ (fun v1 μ1 => (if (vI v1) = 0 then K (mI ((-2))) μ1 else (s_X10_takenBy [mO 9 55, mI l1] μ1 (fun v2 μ2 => K (mI (vI v2)) μ2)))))) : s_X10_both [mO 9 55, mI l1] μ K := seg (pc := 0) (L := [mO 9 55, mI l1]) (S := []) m_X10_both [] 14 H
set_option maxRecDepth 100000 in
theorem g_X10_rests {μ : Mm} {K : MV → Mm → Prop} {l1 : Int32} (H : Tot e_X10_rests K 13 [mO 9 55, mI l1, mI (μ 55 2), mI (μ 55 5), mI 0, mU, mU, mU] [] μ) : s_X10_rests [mO 9 55, mI l1] μ K := seg (pc := 0) (L := [mO 9 55, mI l1, mU, mU, mU, mU, mU, mU]) (S := []) m_X10_rests [13, 90, 103] 139 H
set_option maxRecDepth 100000 in
theorem g_X10_rests_13 {μ : Mm} {K : MV → Mm → Prop} {l1 : Int32} {l2 : Int32} {l3 : Int32} {l4 : Int32} (H : (if 100 ≤ l4 then Tot e_X10_rests K 90 [mO 9 55, mI l1, mI l2, mI l3, mI 0, mI 0, mU, mU] [] (mS (mS μ 55 2 l2) 55 5 l3) else (¬ (10 : Int32) = 0 ∧ (¬ (10 : Int32) = 0 ∧ (s_X10_takenBy [mO 9 55, mI 0] (mS (mS μ 55 2 (l4 / 10)) 55 5 (l4 - l4 / 10 * 10)) (fun v1 μ1 => (vi (2 * l4) 200 ∧ (s_X10_takenBy [mO 9 55, mI 1] (mS μ1 68 (2 * l4).toNatClampNeg (vI v1)) (fun v2 μ2 => (vi ((2 * l4) + 1) 200 ∧ Tot e_X10_rests K 13 [mO 9 55, mI l1, mI l2, mI l3, mI (l4 + 1), mU, mU, mU] [] (mS μ2 68 ((2 * l4) + 1).toNatClampNeg (vI v2)))))))))))) : Tot e_X10_rests K 13 [mO 9 55, mI l1, mI l2, mI l3, mI l4, mU, mU, mU] [] μ := seg (pc := 13) (L := [mO 9 55, mI l1, mI l2, mI l3, mI l4, mU, mU, mU]) (S := []) m_X10_rests [13, 90, 103] 139 H
set_option maxRecDepth 100000 in
theorem g_X10_rests_90 {μ : Mm} {K : MV → Mm → Prop} {l1 : Int32} {l2 : Int32} {l3 : Int32} {l4 : Int32} {l5 : Int32} {z6 : MV} {z7 : MV} (H : (if 100 ≤ l5 then (if l1 = ((-1)) then K (mI l4) μ else K (mI ((-6))) μ) else Tot e_X10_rests K 103 [mO 9 55, mI l1, mI l2, mI l3, mI l4, mI l5, mI 1, mI 0] [] μ)) : Tot e_X10_rests K 90 [mO 9 55, mI l1, mI l2, mI l3, mI l4, mI l5, z6, z7] [] μ := seg (pc := 90) (L := [mO 9 55, mI l1, mI l2, mI l3, mI l4, mI l5, z6, z7]) (S := []) m_X10_rests [13, 90, 103] 139 H
set_option maxRecDepth 100000 in
theorem g_X10_rests_103 {μ : Mm} {K : MV → Mm → Prop} {l1 : Int32} {l2 : Int32} {l3 : Int32} {l4 : Int32} {l5 : Int32} {l6 : Int32} {l7 : Int32} (H : (if 10 ≤ l7 then (if l6 = 0 then Tot e_X10_rests K 90 [mO 9 55, mI l1, mI l2, mI l3, mI l4, mI (l5 + 1), mI l6, mI l7] [] μ else (if l4 = l1 then K (mI l5) μ else Tot e_X10_rests K 90 [mO 9 55, mI l1, mI l2, mI l3, mI (l4 + 1), mI (l5 + 1), mI l6, mI l7] [] μ)) else (if l6 = 0 then (if (0 : Int32) = 0 then Tot e_X10_rests K 103 [mO 9 55, mI l1, mI l2, mI l3, mI l4, mI l5, mI 0, mI (l7 + 1)] [] μ else (¬ (10 : Int32) = 0 ∧ (vi ((2 * ((l5 - (l5 - l5 / 10 * 10)) + l7)) + 1) 200 ∧ (vi ((2 * l5) + 1) 200 ∧ (if (μ 68 ((2 * l5) + 1).toNatClampNeg) < (μ 68 ((2 * ((l5 - (l5 - l5 / 10 * 10)) + l7)) + 1).toNatClampNeg) then Tot e_X10_rests K 103 [mO 9 55, mI l1, mI l2, mI l3, mI l4, mI l5, mI 0, mI (l7 + 1)] [] μ else Tot e_X10_rests K 103 [mO 9 55, mI l1, mI l2, mI l3, mI l4, mI l5, mI 1, mI (l7 + 1)] [] μ))))) else (¬ (10 : Int32) = 0 ∧ (vi (2 * ((10 * l7) + (l5 - l5 / 10 * 10))) 200 ∧ (vi (2 * l5) 200 ∧ (if (μ 68 (2 * l5).toNatClampNeg) < (μ 68 (2 * ((10 * l7) + (l5 - l5 / 10 * 10))).toNatClampNeg) then (if (0 : Int32) = 0 then Tot e_X10_rests K 103 [mO 9 55, mI l1, mI l2, mI l3, mI l4, mI l5, mI 0, mI (l7 + 1)] [] μ else (¬ (10 : Int32) = 0 ∧ (vi ((2 * ((l5 - (l5 - l5 / 10 * 10)) + l7)) + 1) 200 ∧ (vi ((2 * l5) + 1) 200 ∧ (if (μ 68 ((2 * l5) + 1).toNatClampNeg) < (μ 68 ((2 * ((l5 - (l5 - l5 / 10 * 10)) + l7)) + 1).toNatClampNeg) then Tot e_X10_rests K 103 [mO 9 55, mI l1, mI l2, mI l3, mI l4, mI l5, mI 0, mI (l7 + 1)] [] μ else Tot e_X10_rests K 103 [mO 9 55, mI l1, mI l2, mI l3, mI l4, mI l5, mI 1, mI (l7 + 1)] [] μ))))) else (if (1 : Int32) = 0 then Tot e_X10_rests K 103 [mO 9 55, mI l1, mI l2, mI l3, mI l4, mI l5, mI 0, mI (l7 + 1)] [] μ else (¬ (10 : Int32) = 0 ∧ (vi ((2 * ((l5 - (l5 - l5 / 10 * 10)) + l7)) + 1) 200 ∧ (vi ((2 * l5) + 1) 200 ∧ (if (μ 68 ((2 * l5) + 1).toNatClampNeg) < (μ 68 ((2 * ((l5 - (l5 - l5 / 10 * 10)) + l7)) + 1).toNatClampNeg) then Tot e_X10_rests K 103 [mO 9 55, mI l1, mI l2, mI l3, mI l4, mI l5, mI 0, mI (l7 + 1)] [] μ else Tot e_X10_rests K 103 [mO 9 55, mI l1, mI l2, mI l3, mI l4, mI l5, mI 1, mI (l7 + 1)] [] μ)))))))))))) : Tot e_X10_rests K 103 [mO 9 55, mI l1, mI l2, mI l3, mI l4, mI l5, mI l6, mI l7] [] μ := seg (pc := 103) (L := [mO 9 55, mI l1, mI l2, mI l3, mI l4, mI l5, mI l6, mI l7]) (S := []) m_X10_rests [13, 90, 103] 139 H
set_option maxRecDepth 100000 in
theorem g_X10_seen {μ : Mm} {K : MV → Mm → Prop} {l1 : Int32} {l2 : Int32} {l3 : Int32} (H : (s_X10_comes [mO 9 55, mI l1] μ (fun v1 μ1 => (if (vI v1) = 0 then K (mI ((-1))) μ1 else (s_X10_in [mI l2, mI 0, mI (μ1 55 0)] μ1 (fun v2 μ2 => (if (vI v2) = 0 then K (mI ((-2))) μ2 else (s_X10_in [mI l3, mI 0, mI 30] μ2 (fun v3 μ3 => (if (vI v3) = 0 then K (mI ((-2))) μ3 else (if (μ3 55 11) = 6 then K (mI ((-4))) μ3 else (vi (3 * (μ3 55 11)) 18 ∧ (vi ((3 * ((mS μ3 61 (3 * (μ3 55 11)).toNatClampNeg l1) 55 11)) + 1) 18 ∧ (vi ((3 * ((mS (mS μ3 61 (3 * (μ3 55 11)).toNatClampNeg l1) 61 ((3 * ((mS μ3 61 (3 * (μ3 55 11)).toNatClampNeg l1) 55 11)) + 1).toNatClampNeg l2) 55 11)) + 2) 18 ∧ K (mI ((mS (mS (mS (mS μ3 61 (3 * (μ3 55 11)).toNatClampNeg l1) 61 ((3 * ((mS μ3 61 (3 * (μ3 55 11)).toNatClampNeg l1) 55 11)) + 1).toNatClampNeg l2) 61 ((3 * ((mS (mS μ3 61 (3 * (μ3 55 11)).toNatClampNeg l1) 61 ((3 * ((mS μ3 61 (3 * (μ3 55 11)).toNatClampNeg l1) 55 11)) + 1).toNatClampNeg l2) 55 11)) + 2).toNatClampNeg l3) 55 11 (((mS (mS (mS μ3 61 (3 * (μ3 55 11)).toNatClampNeg l1) 61 ((3 * ((mS μ3 61 (3 * (μ3 55 11)).toNatClampNeg l1) 55 11)) + 1).toNatClampNeg l2) 61 ((3 * ((mS (mS μ3 61 (3 * (μ3 55 11)).toNatClampNeg l1) 61 ((3 * ((mS μ3 61 (3 * (μ3 55 11)).toNatClampNeg l1) 55 11)) + 1).toNatClampNeg l2) 55 11)) + 2).toNatClampNeg l3) 55 11) + 1)) 55 11)) (mS (mS (mS (mS μ3 61 (3 * (μ3 55 11)).toNatClampNeg l1) 61 ((3 * ((mS μ3 61 (3 * (μ3 55 11)).toNatClampNeg l1) 55 11)) + 1).toNatClampNeg l2) 61 ((3 * ((mS (mS μ3 61 (3 * (μ3 55 11)).toNatClampNeg l1) 61 ((3 * ((mS μ3 61 (3 * (μ3 55 11)).toNatClampNeg l1) 55 11)) + 1).toNatClampNeg l2) 55 11)) + 2).toNatClampNeg l3) 55 11 (((mS (mS (mS μ3 61 (3 * (μ3 55 11)).toNatClampNeg l1) 61 ((3 * ((mS μ3 61 (3 * (μ3 55 11)).toNatClampNeg l1) 55 11)) + 1).toNatClampNeg l2) 61 ((3 * ((mS (mS μ3 61 (3 * (μ3 55 11)).toNatClampNeg l1) 61 ((3 * ((mS μ3 61 (3 * (μ3 55 11)).toNatClampNeg l1) 55 11)) + 1).toNatClampNeg l2) 55 11)) + 2).toNatClampNeg l3) 55 11) + 1)))))))))))))))) : s_X10_seen [mO 9 55, mI l1, mI l2, mI l3] μ K := seg (pc := 0) (L := [mO 9 55, mI l1, mI l2, mI l3]) (S := []) m_X10_seen [] 65 H
set_option maxRecDepth 100000 in
theorem g_X10_forget {μ : Mm} {K : MV → Mm → Prop}  (H : K (mI (μ 55 11)) (mS μ 55 11 0)) : s_X10_forget [mO 9 55] μ K := seg (pc := 0) (L := [mO 9 55, mU]) (S := []) m_X10_forget [] 11 H
set_option maxRecDepth 100000 in
theorem g_X10_isSeen {μ : Mm} {K : MV → Mm → Prop} {l1 : Int32} (H : Tot e_X10_isSeen K 10 [mO 9 55, mI l1, mI (μ 55 2), mI 1, mI 0] [] μ) : s_X10_isSeen [mO 9 55, mI l1] μ K := seg (pc := 0) (L := [mO 9 55, mI l1, mU, mU, mU]) (S := []) m_X10_isSeen [10] 57 H
set_option maxRecDepth 100000 in
theorem g_X10_isSeen_10 {μ : Mm} {K : MV → Mm → Prop} {l1 : Int32} {l2 : Int32} {l3 : Int32} {l4 : Int32} (H : (if (μ 55 11) ≤ l4 then (zb l3 ∧ K (mI l3) (mS μ 55 2 l2)) else (vi (3 * l4) 18 ∧ (if (μ 61 (3 * l4).toNatClampNeg) = l1 then (vi ((3 * l4) + 2) 18 ∧ (if l3 = 0 then Tot e_X10_isSeen K 10 [mO 9 55, mI l1, mI l2, mI 0, mI (l4 + 1)] [] (mS μ 55 2 (μ 61 ((3 * l4) + 2).toNatClampNeg)) else (s_X10_leavesAt [mO 9 55, mI l1] (mS μ 55 2 (μ 61 ((3 * l4) + 2).toNatClampNeg)) (fun v1 μ1 => (vi ((3 * l4) + 1) 18 ∧ (if (vI v1) = (μ1 61 ((3 * l4) + 1).toNatClampNeg) then Tot e_X10_isSeen K 10 [mO 9 55, mI l1, mI l2, mI 1, mI (l4 + 1)] [] μ1 else Tot e_X10_isSeen K 10 [mO 9 55, mI l1, mI l2, mI 0, mI (l4 + 1)] [] μ1)))))) else Tot e_X10_isSeen K 10 [mO 9 55, mI l1, mI l2, mI l3, mI (l4 + 1)] [] μ)))) : Tot e_X10_isSeen K 10 [mO 9 55, mI l1, mI l2, mI l3, mI l4] [] μ := seg (pc := 10) (L := [mO 9 55, mI l1, mI l2, mI l3, mI l4]) (S := []) m_X10_isSeen [10] 57 H
set_option maxRecDepth 100000 in
theorem g_X10_fits {μ : Mm} {K : MV → Mm → Prop} {l1 : Int32} {l2 : Int32} {l3 : Int32} (H : (s_X10_comes [mO 9 55, mI l1] μ (fun v1 μ1 => (if (vI v1) = 0 then K (mI ((-1))) μ1 else (s_X10_isAct [mO 9 55, mI l2] μ1 (fun v2 μ2 => (if (vI v2) = 0 then K (mI ((-1))) μ2 else (s_X10_in [mI l3, mI 0, mI 2] μ2 (fun v3 μ3 => (if (vI v3) = 0 then K (mI ((-2))) μ3 else (vi ((6 * l1) + l2) 48 ∧ Tot e_X10_fits K 58 [mO 9 55, mI l1, mI l2, mI l3, mI (μ3 56 ((6 * l1) + l2).toNatClampNeg), mI 0, mI ((-6)), mI ((-6)), mI ((-10))] [] μ3))))))))))) : s_X10_fits [mO 9 55, mI l1, mI l2, mI l3] μ K := seg (pc := 0) (L := [mO 9 55, mI l1, mI l2, mI l3, mU, mU, mU, mU, mU]) (S := []) m_X10_fits [58] 88 H
set_option maxRecDepth 100000 in
theorem g_X10_fits_58 {μ : Mm} {K : MV → Mm → Prop} {l1 : Int32} {l2 : Int32} {l3 : Int32} {l4 : Int32} {l5 : Int32} {l6 : Int32} {l7 : Int32} {l8 : Int32} (H : (if 25 < l8 then (vi ((6 * l1) + l2) 48 ∧ (if l3 = 0 then K (mI l5) (mS μ 56 ((6 * l1) + l2).toNatClampNeg l4) else (if l3 = 1 then K (mI l6) (mS μ 56 ((6 * l1) + l2).toNatClampNeg l4) else K (mI l7) (mS μ 56 ((6 * l1) + l2).toNatClampNeg l4)))) else (vi ((6 * l1) + l2) 48 ∧ (s_X10_isSeen [mO 9 55, mI l1] (mS μ 56 ((6 * l1) + l2).toNatClampNeg l8) (fun v1 μ1 => (if (vI v1) = 0 then Tot e_X10_fits K 58 [mO 9 55, mI l1, mI l2, mI l3, mI l4, mI l5, mI l6, mI l7, mI (l8 + 1)] [] μ1 else (if l5 = 0 then Tot e_X10_fits K 58 [mO 9 55, mI l1, mI l2, mI l3, mI l4, mI (l5 + 1), mI (l8 + 10), mI (l8 + 10), mI (l8 + 1)] [] μ1 else Tot e_X10_fits K 58 [mO 9 55, mI l1, mI l2, mI l3, mI l4, mI (l5 + 1), mI l6, mI (l8 + 10), mI (l8 + 1)] [] μ1))))))) : Tot e_X10_fits K 58 [mO 9 55, mI l1, mI l2, mI l3, mI l4, mI l5, mI l6, mI l7, mI l8] [] μ := seg (pc := 58) (L := [mO 9 55, mI l1, mI l2, mI l3, mI l4, mI l5, mI l6, mI l7, mI l8]) (S := []) m_X10_fits [58] 88 H
set_option maxRecDepth 100000 in
theorem g_X10_layPays {μ : Mm} {K : MV → Mm → Prop}  (H : Tot e_X10_layPays K 2 [mO 9 55, mI 0] [] μ) : s_X10_layPays [mO 9 55] μ K := seg (pc := 0) (L := [mO 9 55, mU]) (S := []) m_X10_layPays [2] 25 H
set_option maxRecDepth 100000 in
theorem g_X10_layPays_2 {μ : Mm} {K : MV → Mm → Prop} {l1 : Int32} (H : (if 8 ≤ l1 then K mU μ else (s_X10_has [mI (μ 55 1), mI l1] μ (fun v1 μ1 => (if (vI v1) = 0 then (vi l1 8 ∧ Tot e_X10_layPays K 2 [mO 9 55, mI (l1 + 1)] [] (mS μ1 69 l1.toNatClampNeg 0)) else (s_X10_paysOf [mO 9 55, mI l1] μ1 (fun v2 μ2 => (vi l1 8 ∧ Tot e_X10_layPays K 2 [mO 9 55, mI (l1 + 1)] [] (mS μ2 69 l1.toNatClampNeg (vI v2)))))))))) : Tot e_X10_layPays K 2 [mO 9 55, mI l1] [] μ := seg (pc := 2) (L := [mO 9 55, mI l1]) (S := []) m_X10_layPays [2] 25 H
set_option maxRecDepth 100000 in
theorem g_X10_takenOf {μ : Mm} {K : MV → Mm → Prop} {l1 : Int32} (H : Tot e_X10_takenOf K 4 [mO 9 55, mI l1, mI 0, mI 0] [] μ) : s_X10_takenOf [mO 9 55, mI l1] μ K := seg (pc := 0) (L := [mO 9 55, mI l1, mU, mU]) (S := []) m_X10_takenOf [4] 30 H
set_option maxRecDepth 100000 in
theorem g_X10_takenOf_4 {μ : Mm} {K : MV → Mm → Prop} {l1 : Int32} {l2 : Int32} {l3 : Int32} (H : (if 8 ≤ l3 then K (mI l2) μ else (s_X10_has [mI (l1 &&& (μ 55 1)), mI l3] μ (fun v1 μ1 => (if (vI v1) = 0 then Tot e_X10_takenOf K 4 [mO 9 55, mI l1, mI (l2 + 0), mI (l3 + 1)] [] μ1 else (vi l3 8 ∧ Tot e_X10_takenOf K 4 [mO 9 55, mI l1, mI (l2 + (μ1 69 l3.toNatClampNeg)), mI (l3 + 1)] [] μ1)))))) : Tot e_X10_takenOf K 4 [mO 9 55, mI l1, mI l2, mI l3] [] μ := seg (pc := 4) (L := [mO 9 55, mI l1, mI l2, mI l3]) (S := []) m_X10_takenOf [4] 30 H
set_option maxRecDepth 100000 in
theorem g_X10_power {μ : Mm} {K : MV → Mm → Prop} {l0 : Int64} {l2 : Int32} (H : Tot e_X10_power K 5 [mJ l0, mU, mI l2, mJ 1, mU, mI 0] [] μ) : s_X10_power [mJ l0, mI l2] μ K := seg (pc := 0) (L := [mJ l0, mU, mI l2, mU, mU, mU]) (S := []) m_X10_power [5] 18 H
set_option maxRecDepth 100000 in
theorem g_X10_power_5 {μ : Mm} {K : MV → Mm → Prop} {l0 : Int64} {l2 : Int32} {l3 : Int64} {l5 : Int32} (H : (if l2 ≤ l5 then K (mJ l3) μ else Tot e_X10_power K 5 [mJ l0, mU, mI l2, mJ (l3 * l0), mU, mI (l5 + 1)] [] μ)) : Tot e_X10_power K 5 [mJ l0, mU, mI l2, mJ l3, mU, mI l5] [] μ := seg (pc := 5) (L := [mJ l0, mU, mI l2, mJ l3, mU, mI l5]) (S := []) m_X10_power [5] 18 H
set_option maxRecDepth 100000 in
theorem g_X10_odds {μ : Mm} {K : MV → Mm → Prop} {l1 : Int32} {l2 : Int32} {l3 : Int32} (H : (s_X10_in [mI l1, mI 0, mI 9999] μ (fun v1 μ1 => (if (vI v1) = 0 then K (mJ ((-1000000000000000002))) μ1 else (s_X10_in [mI l2, mI 0, mI 10] μ1 (fun v2 μ2 => (if (vI v2) = 0 then K (mJ ((-1000000000000000002))) μ2 else (s_X10_in [mI l3, mI 0, mI 1] μ2 (fun v3 μ3 => (if (vI v3) = 0 then K (mJ ((-1000000000000000002))) μ3 else (s_X10_layPays [mO 9 55] μ3 (fun v4 μ4 => (s_X10_bits [mI (μ4 55 1)] μ4 (fun v5 μ5 => Tot e_X10_odds K 53 [mO 9 55, mI l1, mI l2, mI l3, mI (vI v5), mJ 0, mU, mI 0, mU, mU, mU, mU, mU, mU, mU] [] μ5)))))))))))))) : s_X10_odds [mO 9 55, mI l1, mI l2, mI l3] μ K := seg (pc := 0) (L := [mO 9 55, mI l1, mI l2, mI l3, mU, mU, mU, mU, mU, mU, mU, mU, mU, mU, mU]) (S := []) m_X10_odds [53, 139] 96 H
set_option maxRecDepth 100000 in
theorem g_X10_odds_53 {μ : Mm} {K : MV → Mm → Prop} {l1 : Int32} {l2 : Int32} {l3 : Int32} {l4 : Int32} {l5 : Int64} {l7 : Int32} (H : (if 256 ≤ l7 then (s_X10_power [mJ 10, mI l4] μ (fun v1 μ1 => Tot e_X10_odds K 139 [mO 9 55, mI l1, mI l2, mI l3, mI l4, mJ l5, mU, mJ (vJ v1), mU, mJ l5, mU, mJ (vJ v1), mU, mU, mU] [] μ1)) else (if (l7 &&& ((μ 55 1) ^^^ ((-1)))) = 0 then (s_X10_takenOf [mO 9 55, mI l7] μ (fun v1 μ1 => (if (vI v1) < l1 then Tot e_X10_odds K 53 [mO 9 55, mI l1, mI l2, mI l3, mI l4, mJ l5, mU, mI (l7 + 1), mU, mU, mU, mU, mU, mU, mU] [] μ1 else (s_X10_bits [mI l7] μ1 (fun v2 μ2 => (s_X10_power [mJ (Int32.toInt64 l2), mI (vI v2)] μ2 (fun v3 μ3 => (s_X10_bits [mI l7] μ3 (fun v4 μ4 => (s_X10_power [mJ (Int32.toInt64 (10 - l2)), mI (l4 - (vI v4))] μ4 (fun v5 μ5 => Tot e_X10_odds K 53 [mO 9 55, mI l1, mI l2, mI l3, mI l4, mJ (l5 + ((vJ v3) * (vJ v5))), mU, mI (l7 + 1), mU, mU, mU, mU, mU, mU, mU] [] μ5))))))))))) else Tot e_X10_odds K 53 [mO 9 55, mI l1, mI l2, mI l3, mI l4, mJ l5, mU, mI (l7 + 1), mU, mU, mU, mU, mU, mU, mU] [] μ))) : Tot e_X10_odds K 53 [mO 9 55, mI l1, mI l2, mI l3, mI l4, mJ l5, mU, mI l7, mU, mU, mU, mU, mU, mU, mU] [] μ := seg (pc := 53) (L := [mO 9 55, mI l1, mI l2, mI l3, mI l4, mJ l5, mU, mI l7, mU, mU, mU, mU, mU, mU, mU]) (S := []) m_X10_odds [53, 139] 96 H
set_option maxRecDepth 100000 in
theorem g_X10_odds_139 {μ : Mm} {K : MV → Mm → Prop} {l1 : Int32} {l2 : Int32} {l3 : Int32} {l4 : Int32} {l5 : Int64} {l7 : Int64} {l9 : Int64} {l11 : Int64} {z13 : MV} (H : (if (lg_cmp l11 0) = 0 then (if l3 = 0 then (¬ l9 = 0 ∧ K (mJ (l5 / l9)) μ) else (¬ l9 = 0 ∧ K (mJ (l7 / l9)) μ)) else (¬ l11 = 0 ∧ Tot e_X10_odds K 139 [mO 9 55, mI l1, mI l2, mI l3, mI l4, mJ l5, mU, mJ l7, mU, mJ l11, mU, mJ (l9 - l9 / l11 * l11), mU, mJ (l9 - l9 / l11 * l11), mU] [] μ))) : Tot e_X10_odds K 139 [mO 9 55, mI l1, mI l2, mI l3, mI l4, mJ l5, mU, mJ l7, mU, mJ l9, mU, mJ l11, mU, z13, mU] [] μ := seg (pc := 139) (L := [mO 9 55, mI l1, mI l2, mI l3, mI l4, mJ l5, mU, mJ l7, mU, mJ l9, mU, mJ l11, mU, z13, mU]) (S := []) m_X10_odds [53, 139] 96 H
set_option maxRecDepth 100000 in
theorem g_X10_year {μ : Mm} {K : MV → Mm → Prop} {l1 : Int32} {l2 : Int32} {l3 : Int32} (H : (s_X10_in [mI l1, mI 0, mI 9999] μ (fun v1 μ1 => (if (vI v1) = 0 then K (mI ((-2))) μ1 else (s_X10_in [mI l2, mI 1, mI 99] μ1 (fun v2 μ2 => (if (vI v2) = 0 then K (mI ((-2))) μ2 else (s_X10_in [mI l3, mI 0, mI 1] μ2 (fun v3 μ3 => (if (vI v3) = 0 then K (mI ((-2))) μ3 else (s_X10_layPays [mO 9 55] μ3 (fun v4 μ4 => Tot e_X10_year K 49 [mO 9 55, mI l1, mI l2, mI l3, mI l1, mI 0, mI 0, mI 0, mU] [] μ4)))))))))))) : s_X10_year [mO 9 55, mI l1, mI l2, mI l3] μ K := seg (pc := 0) (L := [mO 9 55, mI l1, mI l2, mI l3, mU, mU, mU, mU, mU]) (S := []) m_X10_year [49] 66 H
set_option maxRecDepth 100000 in
theorem g_X10_year_49 {μ : Mm} {K : MV → Mm → Prop} {l1 : Int32} {l2 : Int32} {l3 : Int32} {l4 : Int32} {l5 : Int32} {l6 : Int32} {l7 : Int32} {z8 : MV} (H : (if l2 ≤ l7 then (if l3 = 0 then K (mI l5) μ else K (mI l6) μ) else (¬ (65537 : Int32) = 0 ∧ (¬ (256 : Int32) = 0 ∧ (s_X10_takenOf [mO 9 55, mI ((((75 * l4) + 74) - ((75 * l4) + 74) / 65537 * 65537) - (((75 * l4) + 74) - ((75 * l4) + 74) / 65537 * 65537) / 256 * 256)] μ (fun v1 μ1 => (if (vI v1) ≤ l6 then Tot e_X10_year K 49 [mO 9 55, mI l1, mI l2, mI l3, mI (((75 * l4) + 74) - ((75 * l4) + 74) / 65537 * 65537), mI (l5 + (vI v1)), mI l6, mI (l7 + 1), mI (vI v1)] [] μ1 else Tot e_X10_year K 49 [mO 9 55, mI l1, mI l2, mI l3, mI (((75 * l4) + 74) - ((75 * l4) + 74) / 65537 * 65537), mI (l5 + (vI v1)), mI (vI v1), mI (l7 + 1), mI (vI v1)] [] μ1))))))) : Tot e_X10_year K 49 [mO 9 55, mI l1, mI l2, mI l3, mI l4, mI l5, mI l6, mI l7, z8] [] μ := seg (pc := 49) (L := [mO 9 55, mI l1, mI l2, mI l3, mI l4, mI l5, mI l6, mI l7, z8]) (S := []) m_X10_year [49] 66 H
set_option maxRecDepth 100000 in
theorem g_X10_image {μ : Mm} {K : MV → Mm → Prop} {l1 : Int32} (H : (s_X10_in [mI l1, mI 0, mI 1] μ (fun v1 μ1 => (if (vI v1) = 0 then K (mI ((-2))) μ1 else Tot e_X10_image K 19 [mO 9 55, mI l1, mI (100 * l1), mI 0] [] μ1)))) : s_X10_image [mO 9 55, mI l1] μ K := seg (pc := 0) (L := [mO 9 55, mI l1, mU, mU]) (S := []) m_X10_image [19, 47, 112, 143] 175 H
set_option maxRecDepth 100000 in
theorem g_X10_image_19 {μ : Mm} {K : MV → Mm → Prop} {l1 : Int32} {l2 : Int32} {l3 : Int32} (H : (if 48 ≤ l3 then Tot e_X10_image K 47 [mO 9 55, mI l1, mI l2, mI 0] [] μ else (vi l3 48 ∧ (vi (l2 + l3) 200 ∧ Tot e_X10_image K 19 [mO 9 55, mI l1, mI l2, mI (l3 + 1)] [] (mS μ 70 (l2 + l3).toNatClampNeg (μ 56 l3.toNatClampNeg)))))) : Tot e_X10_image K 19 [mO 9 55, mI l1, mI l2, mI l3] [] μ := seg (pc := 19) (L := [mO 9 55, mI l1, mI l2, mI l3]) (S := []) m_X10_image [19, 47, 112, 143] 175 H
set_option maxRecDepth 100000 in
theorem g_X10_image_47 {μ : Mm} {K : MV → Mm → Prop} {l1 : Int32} {l2 : Int32} {l3 : Int32} (H : (if 6 ≤ l3 then Tot e_X10_image K 112 [mO 9 55, mI l1, mI l2, mI 0] [] μ else (vi l3 6 ∧ (vi ((l2 + 48) + l3) 200 ∧ (vi l3 6 ∧ (vi ((l2 + 54) + l3) 200 ∧ (vi l3 6 ∧ (vi ((l2 + 60) + l3) 200 ∧ Tot e_X10_image K 47 [mO 9 55, mI l1, mI l2, mI (l3 + 1)] [] (mS (mS (mS μ 70 ((l2 + 48) + l3).toNatClampNeg (μ 57 l3.toNatClampNeg)) 70 ((l2 + 54) + l3).toNatClampNeg ((mS μ 70 ((l2 + 48) + l3).toNatClampNeg (μ 57 l3.toNatClampNeg)) 58 l3.toNatClampNeg)) 70 ((l2 + 60) + l3).toNatClampNeg ((mS (mS μ 70 ((l2 + 48) + l3).toNatClampNeg (μ 57 l3.toNatClampNeg)) 70 ((l2 + 54) + l3).toNatClampNeg ((mS μ 70 ((l2 + 48) + l3).toNatClampNeg (μ 57 l3.toNatClampNeg)) 58 l3.toNatClampNeg)) 59 l3.toNatClampNeg)))))))))) : Tot e_X10_image K 47 [mO 9 55, mI l1, mI l2, mI l3] [] μ := seg (pc := 47) (L := [mO 9 55, mI l1, mI l2, mI l3]) (S := []) m_X10_image [19, 47, 112, 143] 175 H
set_option maxRecDepth 100000 in
theorem g_X10_image_112 {μ : Mm} {K : MV → Mm → Prop} {l1 : Int32} {l2 : Int32} {l3 : Int32} (H : (if 18 ≤ l3 then Tot e_X10_image K 143 [mO 9 55, mI l1, mI l2, mI 0] [] μ else (vi l3 18 ∧ (vi ((l2 + 66) + l3) 200 ∧ Tot e_X10_image K 112 [mO 9 55, mI l1, mI l2, mI (l3 + 1)] [] (mS μ 70 ((l2 + 66) + l3).toNatClampNeg (μ 61 l3.toNatClampNeg)))))) : Tot e_X10_image K 112 [mO 9 55, mI l1, mI l2, mI l3] [] μ := seg (pc := 112) (L := [mO 9 55, mI l1, mI l2, mI l3]) (S := []) m_X10_image [19, 47, 112, 143] 175 H
set_option maxRecDepth 100000 in
theorem g_X10_image_143 {μ : Mm} {K : MV → Mm → Prop} {l1 : Int32} {l2 : Int32} {l3 : Int32} (H : (if 8 ≤ l3 then (vi (l2 + 84) 200 ∧ (vi (l2 + 85) 200 ∧ (vi (l2 + 86) 200 ∧ (vi (l2 + 87) 200 ∧ (vi (l2 + 88) 200 ∧ (vi (l2 + 89) 200 ∧ (vi (l2 + 90) 200 ∧ ((zb 1 ∧ vi l1 2) ∧ K (mI 1) (mS (mS (mS (mS (mS (mS (mS (mS μ 70 (l2 + 84).toNatClampNeg (μ 55 0)) 70 (l2 + 85).toNatClampNeg ((mS μ 70 (l2 + 84).toNatClampNeg (μ 55 0)) 55 1)) 70 (l2 + 86).toNatClampNeg ((mS (mS μ 70 (l2 + 84).toNatClampNeg (μ 55 0)) 70 (l2 + 85).toNatClampNeg ((mS μ 70 (l2 + 84).toNatClampNeg (μ 55 0)) 55 1)) 55 2)) 70 (l2 + 87).toNatClampNeg ((mS (mS (mS μ 70 (l2 + 84).toNatClampNeg (μ 55 0)) 70 (l2 + 85).toNatClampNeg ((mS μ 70 (l2 + 84).toNatClampNeg (μ 55 0)) 55 1)) 70 (l2 + 86).toNatClampNeg ((mS (mS μ 70 (l2 + 84).toNatClampNeg (μ 55 0)) 70 (l2 + 85).toNatClampNeg ((mS μ 70 (l2 + 84).toNatClampNeg (μ 55 0)) 55 1)) 55 2)) 55 3)) 70 (l2 + 88).toNatClampNeg ((mS (mS (mS (mS μ 70 (l2 + 84).toNatClampNeg (μ 55 0)) 70 (l2 + 85).toNatClampNeg ((mS μ 70 (l2 + 84).toNatClampNeg (μ 55 0)) 55 1)) 70 (l2 + 86).toNatClampNeg ((mS (mS μ 70 (l2 + 84).toNatClampNeg (μ 55 0)) 70 (l2 + 85).toNatClampNeg ((mS μ 70 (l2 + 84).toNatClampNeg (μ 55 0)) 55 1)) 55 2)) 70 (l2 + 87).toNatClampNeg ((mS (mS (mS μ 70 (l2 + 84).toNatClampNeg (μ 55 0)) 70 (l2 + 85).toNatClampNeg ((mS μ 70 (l2 + 84).toNatClampNeg (μ 55 0)) 55 1)) 70 (l2 + 86).toNatClampNeg ((mS (mS μ 70 (l2 + 84).toNatClampNeg (μ 55 0)) 70 (l2 + 85).toNatClampNeg ((mS μ 70 (l2 + 84).toNatClampNeg (μ 55 0)) 55 1)) 55 2)) 55 3)) 55 4)) 70 (l2 + 89).toNatClampNeg ((mS (mS (mS (mS (mS μ 70 (l2 + 84).toNatClampNeg (μ 55 0)) 70 (l2 + 85).toNatClampNeg ((mS μ 70 (l2 + 84).toNatClampNeg (μ 55 0)) 55 1)) 70 (l2 + 86).toNatClampNeg ((mS (mS μ 70 (l2 + 84).toNatClampNeg (μ 55 0)) 70 (l2 + 85).toNatClampNeg ((mS μ 70 (l2 + 84).toNatClampNeg (μ 55 0)) 55 1)) 55 2)) 70 (l2 + 87).toNatClampNeg ((mS (mS (mS μ 70 (l2 + 84).toNatClampNeg (μ 55 0)) 70 (l2 + 85).toNatClampNeg ((mS μ 70 (l2 + 84).toNatClampNeg (μ 55 0)) 55 1)) 70 (l2 + 86).toNatClampNeg ((mS (mS μ 70 (l2 + 84).toNatClampNeg (μ 55 0)) 70 (l2 + 85).toNatClampNeg ((mS μ 70 (l2 + 84).toNatClampNeg (μ 55 0)) 55 1)) 55 2)) 55 3)) 70 (l2 + 88).toNatClampNeg ((mS (mS (mS (mS μ 70 (l2 + 84).toNatClampNeg (μ 55 0)) 70 (l2 + 85).toNatClampNeg ((mS μ 70 (l2 + 84).toNatClampNeg (μ 55 0)) 55 1)) 70 (l2 + 86).toNatClampNeg ((mS (mS μ 70 (l2 + 84).toNatClampNeg (μ 55 0)) 70 (l2 + 85).toNatClampNeg ((mS μ 70 (l2 + 84).toNatClampNeg (μ 55 0)) 55 1)) 55 2)) 70 (l2 + 87).toNatClampNeg ((mS (mS (mS μ 70 (l2 + 84).toNatClampNeg (μ 55 0)) 70 (l2 + 85).toNatClampNeg ((mS μ 70 (l2 + 84).toNatClampNeg (μ 55 0)) 55 1)) 70 (l2 + 86).toNatClampNeg ((mS (mS μ 70 (l2 + 84).toNatClampNeg (μ 55 0)) 70 (l2 + 85).toNatClampNeg ((mS μ 70 (l2 + 84).toNatClampNeg (μ 55 0)) 55 1)) 55 2)) 55 3)) 55 4)) 55 5)) 70 (l2 + 90).toNatClampNeg ((mS (mS (mS (mS (mS (mS μ 70 (l2 + 84).toNatClampNeg (μ 55 0)) 70 (l2 + 85).toNatClampNeg ((mS μ 70 (l2 + 84).toNatClampNeg (μ 55 0)) 55 1)) 70 (l2 + 86).toNatClampNeg ((mS (mS μ 70 (l2 + 84).toNatClampNeg (μ 55 0)) 70 (l2 + 85).toNatClampNeg ((mS μ 70 (l2 + 84).toNatClampNeg (μ 55 0)) 55 1)) 55 2)) 70 (l2 + 87).toNatClampNeg ((mS (mS (mS μ 70 (l2 + 84).toNatClampNeg (μ 55 0)) 70 (l2 + 85).toNatClampNeg ((mS μ 70 (l2 + 84).toNatClampNeg (μ 55 0)) 55 1)) 70 (l2 + 86).toNatClampNeg ((mS (mS μ 70 (l2 + 84).toNatClampNeg (μ 55 0)) 70 (l2 + 85).toNatClampNeg ((mS μ 70 (l2 + 84).toNatClampNeg (μ 55 0)) 55 1)) 55 2)) 55 3)) 70 (l2 + 88).toNatClampNeg ((mS (mS (mS (mS μ 70 (l2 + 84).toNatClampNeg (μ 55 0)) 70 (l2 + 85).toNatClampNeg ((mS μ 70 (l2 + 84).toNatClampNeg (μ 55 0)) 55 1)) 70 (l2 + 86).toNatClampNeg ((mS (mS μ 70 (l2 + 84).toNatClampNeg (μ 55 0)) 70 (l2 + 85).toNatClampNeg ((mS μ 70 (l2 + 84).toNatClampNeg (μ 55 0)) 55 1)) 55 2)) 70 (l2 + 87).toNatClampNeg ((mS (mS (mS μ 70 (l2 + 84).toNatClampNeg (μ 55 0)) 70 (l2 + 85).toNatClampNeg ((mS μ 70 (l2 + 84).toNatClampNeg (μ 55 0)) 55 1)) 70 (l2 + 86).toNatClampNeg ((mS (mS μ 70 (l2 + 84).toNatClampNeg (μ 55 0)) 70 (l2 + 85).toNatClampNeg ((mS μ 70 (l2 + 84).toNatClampNeg (μ 55 0)) 55 1)) 55 2)) 55 3)) 55 4)) 70 (l2 + 89).toNatClampNeg ((mS (mS (mS (mS (mS μ 70 (l2 + 84).toNatClampNeg (μ 55 0)) 70 (l2 + 85).toNatClampNeg ((mS μ 70 (l2 + 84).toNatClampNeg (μ 55 0)) 55 1)) 70 (l2 + 86).toNatClampNeg ((mS (mS μ 70 (l2 + 84).toNatClampNeg (μ 55 0)) 70 (l2 + 85).toNatClampNeg ((mS μ 70 (l2 + 84).toNatClampNeg (μ 55 0)) 55 1)) 55 2)) 70 (l2 + 87).toNatClampNeg ((mS (mS (mS μ 70 (l2 + 84).toNatClampNeg (μ 55 0)) 70 (l2 + 85).toNatClampNeg ((mS μ 70 (l2 + 84).toNatClampNeg (μ 55 0)) 55 1)) 70 (l2 + 86).toNatClampNeg ((mS (mS μ 70 (l2 + 84).toNatClampNeg (μ 55 0)) 70 (l2 + 85).toNatClampNeg ((mS μ 70 (l2 + 84).toNatClampNeg (μ 55 0)) 55 1)) 55 2)) 55 3)) 70 (l2 + 88).toNatClampNeg ((mS (mS (mS (mS μ 70 (l2 + 84).toNatClampNeg (μ 55 0)) 70 (l2 + 85).toNatClampNeg ((mS μ 70 (l2 + 84).toNatClampNeg (μ 55 0)) 55 1)) 70 (l2 + 86).toNatClampNeg ((mS (mS μ 70 (l2 + 84).toNatClampNeg (μ 55 0)) 70 (l2 + 85).toNatClampNeg ((mS μ 70 (l2 + 84).toNatClampNeg (μ 55 0)) 55 1)) 55 2)) 70 (l2 + 87).toNatClampNeg ((mS (mS (mS μ 70 (l2 + 84).toNatClampNeg (μ 55 0)) 70 (l2 + 85).toNatClampNeg ((mS μ 70 (l2 + 84).toNatClampNeg (μ 55 0)) 55 1)) 70 (l2 + 86).toNatClampNeg ((mS (mS μ 70 (l2 + 84).toNatClampNeg (μ 55 0)) 70 (l2 + 85).toNatClampNeg ((mS μ 70 (l2 + 84).toNatClampNeg (μ 55 0)) 55 1)) 55 2)) 55 3)) 55 4)) 55 5)) 55 11)) 71 l1.toNatClampNeg 1))))))))) else (vi l3 8 ∧ (vi ((l2 + 91) + l3) 200 ∧ Tot e_X10_image K 143 [mO 9 55, mI l1, mI l2, mI (l3 + 1)] [] (mS μ 70 ((l2 + 91) + l3).toNatClampNeg (μ 60 l3.toNatClampNeg)))))) : Tot e_X10_image K 143 [mO 9 55, mI l1, mI l2, mI l3] [] μ := seg (pc := 143) (L := [mO 9 55, mI l1, mI l2, mI l3]) (S := []) m_X10_image [19, 47, 112, 143] 175 H
set_option maxRecDepth 100000 in
theorem g_X10_restore {μ : Mm} {K : MV → Mm → Prop} {l1 : Int32} (H : (s_X10_in [mI l1, mI 0, mI 1] μ (fun v1 μ1 => (if (vI v1) = 0 then K (mI ((-2))) μ1 else (vi l1 2 ∧ (if (μ1 71 l1.toNatClampNeg) = 0 then K (mI ((-3))) μ1 else Tot e_X10_restore K 31 [mO 9 55, mI l1, mI (100 * l1), mI 0] [] μ1)))))) : s_X10_restore [mO 9 55, mI l1] μ K := seg (pc := 0) (L := [mO 9 55, mI l1, mU, mU]) (S := []) m_X10_restore [31, 59, 124, 155] 177 H
set_option maxRecDepth 100000 in
theorem g_X10_restore_31 {μ : Mm} {K : MV → Mm → Prop} {l1 : Int32} {l2 : Int32} {l3 : Int32} (H : (if 48 ≤ l3 then Tot e_X10_restore K 59 [mO 9 55, mI l1, mI l2, mI 0] [] μ else (vi (l2 + l3) 200 ∧ (vi l3 48 ∧ Tot e_X10_restore K 31 [mO 9 55, mI l1, mI l2, mI (l3 + 1)] [] (mS μ 56 l3.toNatClampNeg (μ 70 (l2 + l3).toNatClampNeg)))))) : Tot e_X10_restore K 31 [mO 9 55, mI l1, mI l2, mI l3] [] μ := seg (pc := 31) (L := [mO 9 55, mI l1, mI l2, mI l3]) (S := []) m_X10_restore [31, 59, 124, 155] 177 H
set_option maxRecDepth 100000 in
theorem g_X10_restore_59 {μ : Mm} {K : MV → Mm → Prop} {l1 : Int32} {l2 : Int32} {l3 : Int32} (H : (if 6 ≤ l3 then Tot e_X10_restore K 124 [mO 9 55, mI l1, mI l2, mI 0] [] μ else (vi ((l2 + 48) + l3) 200 ∧ (vi l3 6 ∧ (vi ((l2 + 54) + l3) 200 ∧ (vi l3 6 ∧ (vi ((l2 + 60) + l3) 200 ∧ (vi l3 6 ∧ Tot e_X10_restore K 59 [mO 9 55, mI l1, mI l2, mI (l3 + 1)] [] (mS (mS (mS μ 57 l3.toNatClampNeg (μ 70 ((l2 + 48) + l3).toNatClampNeg)) 58 l3.toNatClampNeg ((mS μ 57 l3.toNatClampNeg (μ 70 ((l2 + 48) + l3).toNatClampNeg)) 70 ((l2 + 54) + l3).toNatClampNeg)) 59 l3.toNatClampNeg ((mS (mS μ 57 l3.toNatClampNeg (μ 70 ((l2 + 48) + l3).toNatClampNeg)) 58 l3.toNatClampNeg ((mS μ 57 l3.toNatClampNeg (μ 70 ((l2 + 48) + l3).toNatClampNeg)) 70 ((l2 + 54) + l3).toNatClampNeg)) 70 ((l2 + 60) + l3).toNatClampNeg)))))))))) : Tot e_X10_restore K 59 [mO 9 55, mI l1, mI l2, mI l3] [] μ := seg (pc := 59) (L := [mO 9 55, mI l1, mI l2, mI l3]) (S := []) m_X10_restore [31, 59, 124, 155] 177 H
set_option maxRecDepth 100000 in
theorem g_X10_restore_124 {μ : Mm} {K : MV → Mm → Prop} {l1 : Int32} {l2 : Int32} {l3 : Int32} (H : (if 18 ≤ l3 then Tot e_X10_restore K 155 [mO 9 55, mI l1, mI l2, mI 0] [] μ else (vi ((l2 + 66) + l3) 200 ∧ (vi l3 18 ∧ Tot e_X10_restore K 124 [mO 9 55, mI l1, mI l2, mI (l3 + 1)] [] (mS μ 61 l3.toNatClampNeg (μ 70 ((l2 + 66) + l3).toNatClampNeg)))))) : Tot e_X10_restore K 124 [mO 9 55, mI l1, mI l2, mI l3] [] μ := seg (pc := 124) (L := [mO 9 55, mI l1, mI l2, mI l3]) (S := []) m_X10_restore [31, 59, 124, 155] 177 H
set_option maxRecDepth 100000 in
theorem g_X10_restore_155 {μ : Mm} {K : MV → Mm → Prop} {l1 : Int32} {l2 : Int32} {l3 : Int32} (H : (if 8 ≤ l3 then (vi (l2 + 84) 200 ∧ (vi (l2 + 85) 200 ∧ (vi (l2 + 86) 200 ∧ (vi (l2 + 87) 200 ∧ (vi (l2 + 88) 200 ∧ (vi (l2 + 89) 200 ∧ (vi (l2 + 90) 200 ∧ K (mI 1) (mS (mS (mS (mS (mS (mS (mS μ 55 0 (μ 70 (l2 + 84).toNatClampNeg)) 55 1 ((mS μ 55 0 (μ 70 (l2 + 84).toNatClampNeg)) 70 (l2 + 85).toNatClampNeg)) 55 2 ((mS (mS μ 55 0 (μ 70 (l2 + 84).toNatClampNeg)) 55 1 ((mS μ 55 0 (μ 70 (l2 + 84).toNatClampNeg)) 70 (l2 + 85).toNatClampNeg)) 70 (l2 + 86).toNatClampNeg)) 55 3 ((mS (mS (mS μ 55 0 (μ 70 (l2 + 84).toNatClampNeg)) 55 1 ((mS μ 55 0 (μ 70 (l2 + 84).toNatClampNeg)) 70 (l2 + 85).toNatClampNeg)) 55 2 ((mS (mS μ 55 0 (μ 70 (l2 + 84).toNatClampNeg)) 55 1 ((mS μ 55 0 (μ 70 (l2 + 84).toNatClampNeg)) 70 (l2 + 85).toNatClampNeg)) 70 (l2 + 86).toNatClampNeg)) 70 (l2 + 87).toNatClampNeg)) 55 4 ((mS (mS (mS (mS μ 55 0 (μ 70 (l2 + 84).toNatClampNeg)) 55 1 ((mS μ 55 0 (μ 70 (l2 + 84).toNatClampNeg)) 70 (l2 + 85).toNatClampNeg)) 55 2 ((mS (mS μ 55 0 (μ 70 (l2 + 84).toNatClampNeg)) 55 1 ((mS μ 55 0 (μ 70 (l2 + 84).toNatClampNeg)) 70 (l2 + 85).toNatClampNeg)) 70 (l2 + 86).toNatClampNeg)) 55 3 ((mS (mS (mS μ 55 0 (μ 70 (l2 + 84).toNatClampNeg)) 55 1 ((mS μ 55 0 (μ 70 (l2 + 84).toNatClampNeg)) 70 (l2 + 85).toNatClampNeg)) 55 2 ((mS (mS μ 55 0 (μ 70 (l2 + 84).toNatClampNeg)) 55 1 ((mS μ 55 0 (μ 70 (l2 + 84).toNatClampNeg)) 70 (l2 + 85).toNatClampNeg)) 70 (l2 + 86).toNatClampNeg)) 70 (l2 + 87).toNatClampNeg)) 70 (l2 + 88).toNatClampNeg)) 55 5 ((mS (mS (mS (mS (mS μ 55 0 (μ 70 (l2 + 84).toNatClampNeg)) 55 1 ((mS μ 55 0 (μ 70 (l2 + 84).toNatClampNeg)) 70 (l2 + 85).toNatClampNeg)) 55 2 ((mS (mS μ 55 0 (μ 70 (l2 + 84).toNatClampNeg)) 55 1 ((mS μ 55 0 (μ 70 (l2 + 84).toNatClampNeg)) 70 (l2 + 85).toNatClampNeg)) 70 (l2 + 86).toNatClampNeg)) 55 3 ((mS (mS (mS μ 55 0 (μ 70 (l2 + 84).toNatClampNeg)) 55 1 ((mS μ 55 0 (μ 70 (l2 + 84).toNatClampNeg)) 70 (l2 + 85).toNatClampNeg)) 55 2 ((mS (mS μ 55 0 (μ 70 (l2 + 84).toNatClampNeg)) 55 1 ((mS μ 55 0 (μ 70 (l2 + 84).toNatClampNeg)) 70 (l2 + 85).toNatClampNeg)) 70 (l2 + 86).toNatClampNeg)) 70 (l2 + 87).toNatClampNeg)) 55 4 ((mS (mS (mS (mS μ 55 0 (μ 70 (l2 + 84).toNatClampNeg)) 55 1 ((mS μ 55 0 (μ 70 (l2 + 84).toNatClampNeg)) 70 (l2 + 85).toNatClampNeg)) 55 2 ((mS (mS μ 55 0 (μ 70 (l2 + 84).toNatClampNeg)) 55 1 ((mS μ 55 0 (μ 70 (l2 + 84).toNatClampNeg)) 70 (l2 + 85).toNatClampNeg)) 70 (l2 + 86).toNatClampNeg)) 55 3 ((mS (mS (mS μ 55 0 (μ 70 (l2 + 84).toNatClampNeg)) 55 1 ((mS μ 55 0 (μ 70 (l2 + 84).toNatClampNeg)) 70 (l2 + 85).toNatClampNeg)) 55 2 ((mS (mS μ 55 0 (μ 70 (l2 + 84).toNatClampNeg)) 55 1 ((mS μ 55 0 (μ 70 (l2 + 84).toNatClampNeg)) 70 (l2 + 85).toNatClampNeg)) 70 (l2 + 86).toNatClampNeg)) 70 (l2 + 87).toNatClampNeg)) 70 (l2 + 88).toNatClampNeg)) 70 (l2 + 89).toNatClampNeg)) 55 11 ((mS (mS (mS (mS (mS (mS μ 55 0 (μ 70 (l2 + 84).toNatClampNeg)) 55 1 ((mS μ 55 0 (μ 70 (l2 + 84).toNatClampNeg)) 70 (l2 + 85).toNatClampNeg)) 55 2 ((mS (mS μ 55 0 (μ 70 (l2 + 84).toNatClampNeg)) 55 1 ((mS μ 55 0 (μ 70 (l2 + 84).toNatClampNeg)) 70 (l2 + 85).toNatClampNeg)) 70 (l2 + 86).toNatClampNeg)) 55 3 ((mS (mS (mS μ 55 0 (μ 70 (l2 + 84).toNatClampNeg)) 55 1 ((mS μ 55 0 (μ 70 (l2 + 84).toNatClampNeg)) 70 (l2 + 85).toNatClampNeg)) 55 2 ((mS (mS μ 55 0 (μ 70 (l2 + 84).toNatClampNeg)) 55 1 ((mS μ 55 0 (μ 70 (l2 + 84).toNatClampNeg)) 70 (l2 + 85).toNatClampNeg)) 70 (l2 + 86).toNatClampNeg)) 70 (l2 + 87).toNatClampNeg)) 55 4 ((mS (mS (mS (mS μ 55 0 (μ 70 (l2 + 84).toNatClampNeg)) 55 1 ((mS μ 55 0 (μ 70 (l2 + 84).toNatClampNeg)) 70 (l2 + 85).toNatClampNeg)) 55 2 ((mS (mS μ 55 0 (μ 70 (l2 + 84).toNatClampNeg)) 55 1 ((mS μ 55 0 (μ 70 (l2 + 84).toNatClampNeg)) 70 (l2 + 85).toNatClampNeg)) 70 (l2 + 86).toNatClampNeg)) 55 3 ((mS (mS (mS μ 55 0 (μ 70 (l2 + 84).toNatClampNeg)) 55 1 ((mS μ 55 0 (μ 70 (l2 + 84).toNatClampNeg)) 70 (l2 + 85).toNatClampNeg)) 55 2 ((mS (mS μ 55 0 (μ 70 (l2 + 84).toNatClampNeg)) 55 1 ((mS μ 55 0 (μ 70 (l2 + 84).toNatClampNeg)) 70 (l2 + 85).toNatClampNeg)) 70 (l2 + 86).toNatClampNeg)) 70 (l2 + 87).toNatClampNeg)) 70 (l2 + 88).toNatClampNeg)) 55 5 ((mS (mS (mS (mS (mS μ 55 0 (μ 70 (l2 + 84).toNatClampNeg)) 55 1 ((mS μ 55 0 (μ 70 (l2 + 84).toNatClampNeg)) 70 (l2 + 85).toNatClampNeg)) 55 2 ((mS (mS μ 55 0 (μ 70 (l2 + 84).toNatClampNeg)) 55 1 ((mS μ 55 0 (μ 70 (l2 + 84).toNatClampNeg)) 70 (l2 + 85).toNatClampNeg)) 70 (l2 + 86).toNatClampNeg)) 55 3 ((mS (mS (mS μ 55 0 (μ 70 (l2 + 84).toNatClampNeg)) 55 1 ((mS μ 55 0 (μ 70 (l2 + 84).toNatClampNeg)) 70 (l2 + 85).toNatClampNeg)) 55 2 ((mS (mS μ 55 0 (μ 70 (l2 + 84).toNatClampNeg)) 55 1 ((mS μ 55 0 (μ 70 (l2 + 84).toNatClampNeg)) 70 (l2 + 85).toNatClampNeg)) 70 (l2 + 86).toNatClampNeg)) 70 (l2 + 87).toNatClampNeg)) 55 4 ((mS (mS (mS (mS μ 55 0 (μ 70 (l2 + 84).toNatClampNeg)) 55 1 ((mS μ 55 0 (μ 70 (l2 + 84).toNatClampNeg)) 70 (l2 + 85).toNatClampNeg)) 55 2 ((mS (mS μ 55 0 (μ 70 (l2 + 84).toNatClampNeg)) 55 1 ((mS μ 55 0 (μ 70 (l2 + 84).toNatClampNeg)) 70 (l2 + 85).toNatClampNeg)) 70 (l2 + 86).toNatClampNeg)) 55 3 ((mS (mS (mS μ 55 0 (μ 70 (l2 + 84).toNatClampNeg)) 55 1 ((mS μ 55 0 (μ 70 (l2 + 84).toNatClampNeg)) 70 (l2 + 85).toNatClampNeg)) 55 2 ((mS (mS μ 55 0 (μ 70 (l2 + 84).toNatClampNeg)) 55 1 ((mS μ 55 0 (μ 70 (l2 + 84).toNatClampNeg)) 70 (l2 + 85).toNatClampNeg)) 70 (l2 + 86).toNatClampNeg)) 70 (l2 + 87).toNatClampNeg)) 70 (l2 + 88).toNatClampNeg)) 70 (l2 + 89).toNatClampNeg)) 70 (l2 + 90).toNatClampNeg))))))))) else (vi ((l2 + 91) + l3) 200 ∧ (vi l3 8 ∧ Tot e_X10_restore K 155 [mO 9 55, mI l1, mI l2, mI (l3 + 1)] [] (mS μ 60 l3.toNatClampNeg (μ 70 ((l2 + 91) + l3).toNatClampNeg)))))) : Tot e_X10_restore K 155 [mO 9 55, mI l1, mI l2, mI l3] [] μ := seg (pc := 155) (L := [mO 9 55, mI l1, mI l2, mI l3]) (S := []) m_X10_restore [31, 59, 124, 155] 177 H
set_option maxRecDepth 100000 in
theorem g_X10_told {μ : Mm} {K : MV → Mm → Prop} {l1 : Int32} (H : (s_X10_in [mI l1, mI 10, mI 15] μ (fun v1 μ1 => (if (vI v1) = 0 then (s_X10_in [mI l1, mI 20, mI 25] μ1 (fun v2 μ2 => (if (vI v2) = 0 then (if l1 = 0 then K (mI (μ2 55 13)) μ2 else (if l1 = 1 then K (mI (μ2 55 0)) μ2 else (if l1 = 2 then K (mI (μ2 55 1)) μ2 else (if l1 = 3 then K (mI (μ2 55 2)) μ2 else (if l1 = 4 then K (mI (μ2 55 3)) μ2 else (if l1 = 5 then K (mI (μ2 55 4)) μ2 else (if l1 = 6 then K (mI (μ2 55 5)) μ2 else (if l1 = 7 then K (mI (μ2 55 11)) μ2 else K (mI ((-2))) μ2)))))))) else (s_X10_isAct [mO 9 55, mI (l1 - 20)] μ2 (fun v3 μ3 => (if (vI v3) = 0 then K (mI ((-2))) μ3 else (vi (l1 - 20) 6 ∧ K (mI (μ3 59 (l1 - 20).toNatClampNeg)) μ3))))))) else (s_X10_isAct [mO 9 55, mI (l1 - 10)] μ1 (fun v2 μ2 => (if (vI v2) = 0 then K (mI ((-2))) μ2 else (vi (l1 - 10) 6 ∧ K (mI (μ2 57 (l1 - 10).toNatClampNeg)) μ2)))))))) : s_X10_told [mO 9 55, mI l1] μ K := seg (pc := 0) (L := [mO 9 55, mI l1]) (S := []) m_X10_told [] 74 H
end
section
/-! ===== numbers, views of the two states, what is asked of them ===== -/
theorem vi_nI {i n : Nat} (h : i < n) (hn : n < 2 ^ 31) : vi (nI i) n := by
  unfold vi
  rw [nI_toInt (Nat.lt_trans h hn)]
  omega
theorem nI_mul (a b : Nat) : nI a * nI b = nI (a * b) := (Int32.ofNat_mul a b).symm
theorem nI_sub {a b : Nat} (h : b ≤ a) : nI a - nI b = nI (a - b) := by
  have e : nI a = nI (a - b) + nI b := by rw [nI_add]; congr 1; omega
  rw [e]
  exact Int32.add_sub_cancel _ _
theorem nI_nat {x : Int32} (h : 0 ≤ x) : x = nI x.toNatClampNeg := by
  have h0 : 0 ≤ x.toInt := by
    have := Int32.le_iff_toInt_le.mp h
    simpa using this
  have h1 : x.toInt < 2 ^ 31 := Int32.toInt_lt x
  have hc : x.toNatClampNeg = x.toInt.toNat := rfl
  apply Int32.toInt_inj.mp
  rw [nI_toInt (by rw [hc]; omega), hc]
  omega
theorem nI_rng {x : Int32} {n : Nat} (hn : n < 2 ^ 31) (h0 : 0 ≤ x) (h1 : x ≤ nI n) : x.toNatClampNeg ≤ n := by
  have hc : x.toNatClampNeg = x.toInt.toNat := rfl
  have h2 := Int32.le_iff_toInt_le.mp h1
  rw [nI_toInt hn] at h2
  rw [hc]
  omega
/-- an int between 0 and n -/
theorem nI_btw {x : Int32} {n : Nat} (hn : n < 2 ^ 31) (h0 : 0 ≤ x) (h1 : x ≤ nI n) : ∃ k, k ≤ n ∧ x = nI k := ⟨x.toNatClampNeg, nI_rng hn h0 h1, nI_nat h0⟩
theorem i_le_of_not_lt {a b : Int32} (h : ¬ a < b) : b ≤ a := Int32.not_lt.mp h
theorem i_lt_of_not_le {a b : Int32} (h : ¬ a ≤ b) : b < a := Int32.not_le.mp h
theorem i_not_lt_of_le {a b : Int32} (h : a ≤ b) : ¬ b < a := Int32.not_lt.mpr h
theorem i_not_le_of_lt {a b : Int32} (h : a < b) : ¬ b ≤ a := Int32.not_le.mpr h
def bI (b : Bool) : Int32 := bif b then 1 else 0
theorem bI_0 {b : Bool} : (bI b = 0) = (b = false) := by cases b <;> simp [bI]
theorem zb1 : zb 1 := Or.inr rfl
theorem zb0 : zb 0 := Or.inl rfl
theorem zb_bI {b : Bool} : zb (bI b) := by cases b; exact zb0; exact zb1
theorem vI_mI (x : Int32) : vI (mI x) = x := rfl
theorem vJ_mJ (x : Int64) : vJ (mJ x) = x := rfl
theorem vC_mO (t c : Nat) : vC (mO t c) = c := rfl
theorem mS_mS {μ : Mm} {c k : Nat} {x y : Int32} : mS (mS μ c k x) c k y = mS μ c k y := by
  funext c' k'
  unfold mS
  split <;> rfl
theorem mS_comm {μ : Mm} {c k c' k' : Nat} {x y : Int32} (h : ¬ (c = c' ∧ k = k')) : mS (mS μ c k x) c' k' y = mS (mS μ c' k' y) c k x := by
  funext a b
  unfold mS
  by_cases h1 : a = c' ∧ b = k'
  · by_cases h2 : a = c ∧ b = k
    · exact absurd ⟨h2.1.symm.trans h1.1, h2.2.symm.trans h1.2⟩ h
    · rw [if_pos h1, if_neg h2, if_pos h1]
  · rw [if_neg h1]
    by_cases h2 : a = c ∧ b = k
    · rw [if_pos h2, if_pos h2]
    · rw [if_neg h2, if_neg h2, if_neg h1]
theorem mS_id {μ : Mm} {c k : Nat} {x : Int32} (h : μ c k = x) : mS μ c k x = μ := by
  funext a b
  unfold mS
  split
  · rename_i e; rw [e.1, e.2, h]
  · rfl
theorem mS_c {μ : Mm} {c k : Nat} {x : Int32} {c' : Nat} (h : c' ≠ c) : mS μ c k x c' = μ c' := funext fun _ => mS_ne (fun e => h e.1)
abbrev Vw : Type := Nat → Nat → Int32
def tr (n : Nat) (f : Nat → Int32) : Nat → Int32 := fun i => if i < n then f i else 0
theorem tr_at {n : Nat} {f : Nat → Int32} {i : Nat} (h : i < n) : tr n f i = f i := if_pos h
theorem tr_eq {n : Nat} {f g : Nat → Int32} (h : ∀ i, i < n → f i = g i) : tr n f = tr n g := by
  funext i
  unfold tr
  split
  · exact h i (by assumption)
  · rfl
/-- a Stage at cell c, as a view: 0 numbers (acts, come, base, step, law, base there, sights), 1 worths, 2 order, 3 worths there, 4 friends, 5 to 7 sights -/
def vS (μ : Mm) (c : Nat) : Vw := fun r => match r with
  | 0 => fun i => match i with
    | 0 => μ c 0
    | 1 => μ c 5
    | 2 => μ c 1
    | 3 => μ c 2
    | 4 => μ c 3
    | 5 => μ c 4
    | 6 => μ (c + 6) 0
    | _ => 0
  | 1 => tr 48 (μ (c + 2))
  | 2 => tr 6 (μ (c + 1))
  | 3 => tr 6 (μ (c + 3))
  | 4 => tr 8 (μ (c + 5))
  | 5 => tr 6 (μ (c + 7))
  | 6 => tr 6 (μ (c + 8))
  | 7 => tr 6 (μ (c + 9))
  | _ => fun _ => 0
/-- the reference's state, as the same view -/
def vM (μ : Mm) : Vw := fun r => match r with
  | 0 => fun i => match i with
    | 0 => μ 55 0
    | 1 => μ 55 1
    | 2 => μ 55 2
    | 3 => μ 55 3
    | 4 => μ 55 4
    | 5 => μ 55 5
    | 6 => μ 55 11
    | _ => 0
  | 1 => tr 48 (μ 56)
  | 2 => tr 6 (μ 57)
  | 3 => tr 6 (μ 59)
  | 4 => tr 8 (μ 60)
  | 5 => tr 6 (fun i => μ 61 (3 * i))
  | 6 => tr 6 (fun i => μ 61 (3 * i + 1))
  | 7 => tr 6 (fun i => μ 61 (3 * i + 2))
  | _ => fun _ => 0
def nA (v : Vw) : Nat := (v 0 0).toNatClampNeg
def oA (v : Vw) (j : Nat) : Nat := (v 2 j).toNatClampNeg
def sumN (f : Nat → Int32) : Nat → Int32
  | 0 => 0
  | k + 1 => sumN f k + f k
theorem sumN_congr {f g : Nat → Int32} : ∀ (n : Nat), (∀ i, i < n → f i = g i) → sumN f n = sumN g n
  | 0, _ => rfl
  | n + 1, h => by
    show sumN f n + f n = sumN g n + g n
    rw [sumN_congr n (fun i hi => h i (by omega)), h n (by omega)]
/-- worth to a guest of the act played j-th -/
def wp (v : Vw) (g j : Nat) : Int32 := v 1 (6 * g + oA v j)
/-- FARES of e acts -/
def fr (b s : Int32) (e : Nat) : Int32 := nI e * b + nI (e * (e - 1) / 2) * s
def sw (v : Vw) (g : Nat) (k : Nat) : Int32 := sumN (wp v g) k
def lv (v : Vw) (g : Nat) : Nat → Nat × Int32
  | 0 => (0, 0)
  | k + 1 => if (lv v g k).2 < sw v g (k + 1) - fr (v 0 2) (v 0 3) (k + 1) ∧ (v 0 4 = 0 ∨ k + 1 = nA v) then (k + 1, sw v g (k + 1) - fr (v 0 2) (v 0 3) (k + 1)) else lv v g k
def LV (v : Vw) (g : Nat) : Nat := (lv v g (nA v)).1
def OWN (v : Vw) (g : Nat) : Int32 := (lv v g (nA v)).2
def pay (v : Vw) (g : Nat) : Int32 := fr (v 0 2) (v 0 3) (LV v g)
def cmB (v : Vw) (a : Int32) : Bool := decide (0 ≤ a ∧ a ≤ 7) && decide ((v 0 1 >>> (a &&& 31)) &&& 1 = 1)
def payC (v : Vw) (g : Nat) : Int32 := bif cmB v (nI g) then pay v g else 0
def TK (v : Vw) : Int32 := sumN (payC v) 8
theorem lv_le {v : Vw} {g : Nat} : ∀ (k : Nat), (lv v g k).1 ≤ k
  | 0 => Nat.le_refl 0
  | k + 1 => by
    unfold lv
    split
    · exact Nat.le_refl _
    · exact Nat.le_succ_of_le (lv_le k)
theorem LV_le {v : Vw} {g : Nat} : LV v g ≤ nA v := lv_le _
theorem fr_0 (b s : Int32) : fr b s 0 = 0 := by
  unfold fr
  show 0 * b + 0 * s = 0
  rw [Int32.zero_mul, Int32.zero_mul]
  rfl
theorem lv_own {v : Vw} {g : Nat} : ∀ (k : Nat), (lv v g k).2 = sw v g (lv v g k).1 - fr (v 0 2) (v 0 3) (lv v g k).1
  | 0 => by
    show 0 = sw v g 0 - fr _ _ 0
    rw [fr_0]
    show (0 : Int32) = 0 - 0
    decide
  | k + 1 => by
    unfold lv
    split
    · rfl
    · exact lv_own k
/-- the acts, and an order whose places are acts -/
def Wb (v : Vw) : Prop := (1 ≤ nA v ∧ nA v ≤ 6 ∧ v 0 0 = nI (nA v)) ∧ ∀ j, j < 6 → oA v j < 6 ∧ v 2 j = nI (oA v j)
theorem fr_comp {b s : Int32} {e : Nat} (he : e ≤ 6) : nI e * b + nI e * (nI e - 1) / 2 * s = fr b s e := by
  have h : ∀ e, e ≤ 6 → nI e * (nI e - 1) / 2 = nI (e * (e - 1) / 2) := by decide
  rw [h e he]
  rfl
theorem fr_ref {b s : Int32} {e : Nat} (he : e ≤ 6) (hs : ∃ k, k ≤ 9 ∧ s = nI k) : nI e * b + s * nI e * (nI e - 1) / 2 = fr b s e := by
  obtain ⟨k, hk, rfl⟩ := hs
  have h : ∀ e, e ≤ 6 → ∀ k, k ≤ 9 → nI k * nI e * (nI e - 1) / 2 = nI (e * (e - 1) / 2) * nI k := by decide
  rw [h e he k hk]
  rfl
theorem fr_succ (b s : Int32) {k : Nat} (hk : k ≤ 6) : fr b s (k + 1) = fr b s k + (b + nI k * s) := by
  have h : ∀ k, k ≤ 6 → nI ((k + 1) * (k + 1 - 1) / 2) = nI (k * (k - 1) / 2) + nI k := by decide
  unfold fr
  rw [h k hk, nI_succ, Int32.add_mul, Int32.add_mul, Int32.one_mul]
  ac_rfl
theorem and1 (x : Int32) : x &&& 1 = 0 ∨ x &&& 1 = 1 := by
  have h : ∀ b : BitVec 32, b &&& 1#32 = 0#32 ∨ b &&& 1#32 = 1#32 := by
    intro b
    have h1 : (b &&& 1#32).toNat = b.toNat % 2 := by
      rw [BitVec.toNat_and]
      exact Nat.and_one_is_mod b.toNat
    rcases Nat.mod_two_eq_zero_or_one b.toNat with e | e
    · left; apply BitVec.eq_of_toNat_eq; rw [h1, e]; rfl
    · right; apply BitVec.eq_of_toNat_eq; rw [h1, e]; rfl
  rcases h x.toBitVec with e | e
  · left; exact Int32.toBitVec_inj.mp (by rw [Int32.toBitVec_and]; exact e)
  · right; exact Int32.toBitVec_inj.mp (by rw [Int32.toBitVec_and]; exact e)
theorem and1_ne0 {x : Int32} (h : ¬ x &&& 1 = 0) : x &&& 1 = 1 := (and1 x).resolve_left h
theorem i10 : ¬ (1 : Int32) = 0 := by decide
theorem ite_b {b : Bool} {A B : Prop} : (if bI b = 0 then A else B) = (bif b then B else A) := by
  cases b
  · show (if (0 : Int32) = 0 then A else B) = A
    rw [if_pos rfl]
  · show (if (1 : Int32) = 0 then A else B) = B
    rw [if_neg i10]
theorem sw0 {v : Vw} {g : Nat} {b s : Int32} : sw v g 0 - fr b s 0 = 0 := by
  rw [fr_0]
  show (0 : Int32) - 0 = 0
  decide
end
section
/-! ===== the class: rows, Stage ===== -/
theorem c_at {μ : Mm} {K : MV → Mm → Prop} {n c i : Nat} (hi : i < n) (hn : n < 2 ^ 31) (h : K (mI (μ c i)) μ) : s_X5_at [mA n c, mI (nI i)] μ K := by
  refine g_X5_at ?_
  have hi2 : i < 2 ^ 31 := Nat.lt_trans hi hn
  rw [if_neg (nI_pos hi2), if_neg (i_not_le_of_lt (nI_lt hi hn)), nI_clamp hi2]
  exact ⟨vi_nI hi hn, h⟩
theorem c_at_out {μ : Mm} {K : MV → Mm → Prop} {n c : Nat} {i : Int32} (hi : i < 0 ∨ nI n ≤ i) (h : K (mI 0) μ) : s_X5_at [mA n c, mI i] μ K := by
  refine g_X5_at ?_
  split
  · exact h
  · rw [if_pos (hi.resolve_left (by assumption))]
    exact h
theorem c_put {μ : Mm} {K : MV → Mm → Prop} {n c i : Nat} {x : Int32} (hi : i < n) (hn : n < 2 ^ 31) (h : K mU (mS μ c i x)) : s_X5_put [mA n c, mI (nI i), mI x] μ K := by
  refine g_X5_put ?_
  have hi2 : i < 2 ^ 31 := Nat.lt_trans hi hn
  rw [if_neg (nI_pos hi2), if_neg (i_not_le_of_lt (nI_lt hi hn)), nI_clamp hi2]
  exact ⟨vi_nI hi hn, h⟩
theorem c_within {μ : Mm} {K : MV → Mm → Prop} {x a b : Int32} (h : K (mI (bI (decide (a ≤ x ∧ x ≤ b)))) μ) : s_X9_within [mI x, mI a, mI b] μ K := by
  refine g_X9_within ?_
  split
  · rename_i h1
    refine ⟨zb0, ?_⟩
    have e : decide (a ≤ x ∧ x ≤ b) = false := by simp [i_not_le_of_lt h1]
    rw [e] at h; exact h
  · rename_i h1
    split
    · rename_i h2
      refine ⟨zb0, ?_⟩
      have e : decide (a ≤ x ∧ x ≤ b) = false := by simp [i_not_le_of_lt h2]
      rw [e] at h; exact h
    · rename_i h2
      refine ⟨zb1, ?_⟩
      have e : decide (a ≤ x ∧ x ≤ b) = true := by simp [i_le_of_not_lt h1, i_le_of_not_lt h2]
      rw [e] at h; exact h
theorem c_comes {μ : Mm} {K : MV → Mm → Prop} {c : Nat} {a : Int32} (h : K (mI (bI (cmB (vS μ c) a))) μ) : s_X8_comes [mO 7 c, mI a] μ K := by
  refine g_X8_comes (c_within ?_)
  rw [vI_mI]
  have e0 : cmB (vS μ c) a = (decide (0 ≤ a ∧ a ≤ 7) && decide ((μ c 5 >>> (a &&& 31)) &&& 1 = 1)) := rfl
  rw [e0] at h
  cases hd : decide (0 ≤ a ∧ a ≤ 7) with
  | false =>
    rw [hd] at h
    exact ⟨zb0, h⟩
  | true =>
    rw [hd, Bool.true_and] at h
    rw [if_neg (by decide)]
    split
    · rename_i h1
      rw [h1] at h
      exact ⟨zb0, h⟩
    · rename_i h1
      rw [and1_ne0 h1] at h
      exact ⟨zb1, h⟩
theorem c_hasAct {μ : Mm} {K : MV → Mm → Prop} {c : Nat} {a : Int32} (h : K (mI (bI (decide (0 ≤ a ∧ a ≤ μ c 0 - 1)))) μ) : s_X8_hasAct [mO 7 c, mI a] μ K := by
  refine g_X8_hasAct (c_within ?_)
  rw [vI_mI]
  cases hd : decide (0 ≤ a ∧ a ≤ μ c 0 - 1) with
  | false => rw [hd] at h; exact ⟨zb0, h⟩
  | true => rw [hd] at h; exact ⟨zb1, h⟩
section ST
variable {μ : Mm} {K : MV → Mm → Prop} {c : Nat}
theorem wb_wp (hw : Wb (vS μ c)) {g j : Nat} (hg : g < 8) (hj : j < 6) : 6 * g + oA (vS μ c) j < 48 ∧ wp (vS μ c) g j = μ (c + 2) (6 * g + oA (vS μ c) j) := by
  have h := (hw.2 j hj).1
  have h2 : 6 * g + oA (vS μ c) j < 48 := by omega
  exact ⟨h2, tr_at h2⟩
theorem c_worthPlayed (hw : Wb (vS μ c)) {g j : Nat} (hg : g < 8) (hj : j < 6) (h : K (mI (wp (vS μ c) g j)) μ) : s_X8_worthPlayed [mO 7 c, mI (nI g), mI (nI j)] μ K := by
  refine g_X8_worthPlayed (c_at hj (by decide) ?_)
  obtain ⟨h1, h2⟩ := wb_wp hw hg hj
  have e : μ (c + 1) j = nI (oA (vS μ c) j) := (tr_at (f := μ (c + 1)) hj).symm.trans (hw.2 j hj).2
  rw [vI_mI, e, show nI g * 6 = nI g * nI 6 from rfl, nI_mul, nI_add]
  refine c_at (by omega) (by decide) ?_
  rw [vI_mI, show g * 6 = 6 * g from Nat.mul_comm _ _, ← h2]
  exact h
theorem c_price {b : Int32} {e : Nat} (he : e ≤ 6) (h : K (mI (fr b (μ c 2) e)) μ) : s_X8_price [mO 7 c, mI b, mI (nI e)] μ K := by
  refine g_X8_price ⟨by decide, ?_⟩
  rw [fr_comp he]
  exact h
theorem c_behind_loop (hw : Wb (vS μ c)) {g : Nat} (hg : g < 8) (h : K (mI (nI (LV (vS μ c) g))) μ) : ∀ (d k : Nat) (z : MV), k + d = nA (vS μ c) →
    Tot e_X8_behind K 10 [mO 7 c, mI (nI g), mI (sw (vS μ c) g k - fr (μ c 1) (μ c 2) k), mI (lv (vS μ c) g k).2, mI (nI (lv (vS μ c) g k).1), mI (nI k), z] [] μ := by
  have hn : μ c 0 = nI (nA (vS μ c)) := hw.1.2.2
  intro d
  induction d with
  | zero =>
    intro k z hk
    refine g_X8_behind_10 ?_
    have e : k = nA (vS μ c) := by omega
    rw [if_pos (by rw [hn, e]; exact nI_le (Nat.le_refl _) (by have := hw.1.2.1; omega)), e]
    exact h
  | succ d ih =>
    intro k z hk
    have h6 := hw.1.2.1
    refine g_X8_behind_10 ?_
    rw [if_neg (by rw [hn]; exact nI_ge (by omega) (by omega))]
    refine c_worthPlayed hw hg (by omega) ?_
    have es : sw (vS μ c) g k - fr (μ c 1) (μ c 2) k + (vI (mI (wp (vS μ c) g k)) - μ c 1 - nI k * μ c 2) = sw (vS μ c) g (k + 1) - fr (μ c 1) (μ c 2) (k + 1) := by
      rw [fr_succ _ _ (by omega), vI_mI]
      show _ = sw (vS μ c) g k + wp (vS μ c) g k - _
      generalize sw (vS μ c) g k = A
      generalize fr (μ c 1) (μ c 2) k = B
      generalize wp (vS μ c) g k = C
      generalize nI k * μ c 2 = E
      generalize μ c 1 = F
      grind
    have hl : lv (vS μ c) g (k + 1) = if (lv (vS μ c) g k).2 < sw (vS μ c) g (k + 1) - fr (μ c 1) (μ c 2) (k + 1) ∧ (μ c 3 = 0 ∨ k + 1 = nA (vS μ c)) then (k + 1, sw (vS μ c) g (k + 1) - fr (μ c 1) (μ c 2) (k + 1)) else lv (vS μ c) g k := rfl
    have hlaw : (nI k = μ c 0 - 1) ↔ k + 1 = nA (vS μ c) := by
      rw [hn, show (1 : Int32) = nI 1 from rfl, nI_sub hw.1.1, nI_eq (by omega) (by omega)]
      omega
    rw [es]
    have st : ∀ y : MV, ¬ (μ c 3 = 0 ∨ k + 1 = nA (vS μ c)) → Tot e_X8_behind K 10 [mO 7 c, mI (nI g), mI (sw (vS μ c) g (k + 1) - fr (μ c 1) (μ c 2) (k + 1)), mI (lv (vS μ c) g k).2, mI (nI (lv (vS μ c) g k).1), mI (nI k + 1), y] [] μ := fun y hno => by
      have := ih (k + 1) y (by omega)
      rw [hl, if_neg (fun z => hno z.2), ← nI_1] at this
      exact this
    have st2 : ∀ y : MV, (sw (vS μ c) g (k + 1) - fr (μ c 1) (μ c 2) (k + 1)) ≤ (lv (vS μ c) g k).2 → Tot e_X8_behind K 10 [mO 7 c, mI (nI g), mI (sw (vS μ c) g (k + 1) - fr (μ c 1) (μ c 2) (k + 1)), mI (lv (vS μ c) g k).2, mI (nI (lv (vS μ c) g k).1), mI (nI k + 1), y] [] μ := fun y hno => by
      have := ih (k + 1) y (by omega)
      rw [hl, if_neg (fun z => absurd z.1 (i_not_lt_of_le hno)), ← nI_1] at this
      exact this
    have st3 : ∀ y : MV, (μ c 3 = 0 ∨ k + 1 = nA (vS μ c)) → ¬ (sw (vS μ c) g (k + 1) - fr (μ c 1) (μ c 2) (k + 1)) ≤ (lv (vS μ c) g k).2 → Tot e_X8_behind K 10 [mO 7 c, mI (nI g), mI (sw (vS μ c) g (k + 1) - fr (μ c 1) (μ c 2) (k + 1)), mI (sw (vS μ c) g (k + 1) - fr (μ c 1) (μ c 2) (k + 1)), mI (nI k + 1), mI (nI k + 1), y] [] μ := fun y hyes hno => by
      have := ih (k + 1) y (by omega)
      rw [hl, if_pos ⟨i_lt_of_not_le hno, hyes⟩, ← nI_1] at this
      exact this
    split
    · rename_i h0
      rw [if_neg i10]
      split
      · exact st2 _ (by assumption)
      · exact st3 _ (Or.inl h0) (by assumption)
    · rename_i h0
      split
      · rename_i h1
        rw [if_neg i10]
        split
        · exact st2 _ (by assumption)
        · exact st3 _ (Or.inr (hlaw.mp h1)) (by assumption)
      · rename_i h1
        rw [if_pos rfl]
        exact st _ (fun z => z.elim h0 (fun z => h1 (hlaw.mpr z)))
theorem c_behind (hw : Wb (vS μ c)) {g : Nat} (hg : g < 8) (h : K (mI (nI (LV (vS μ c) g))) μ) : s_X8_behind [mO 7 c, mI (nI g)] μ K := by
  refine g_X8_behind ?_
  have := c_behind_loop hw hg h (nA (vS μ c)) 0 mU (by omega)
  rw [sw0] at this
  exact this
theorem c_pays (hw : Wb (vS μ c)) {g : Nat} (hg : g < 8) (h : K (mI (payC (vS μ c) g)) μ) : s_X8_pays [mO 7 c, mI (nI g)] μ K := by
  refine g_X8_pays (c_comes ?_)
  rw [vI_mI, ite_b]
  unfold payC at h
  cases hc : cmB (vS μ c) (nI g) with
  | false =>
    rw [hc] at h
    exact h
  | true =>
    rw [hc, cond_true] at h
    rw [cond_true]
    refine c_behind hw hg ?_
    rw [vI_mI]
    refine c_price (Nat.le_trans LV_le hw.1.2.1) ?_
    exact h
theorem c_allPay_loop (hw : Wb (vS μ c)) (h : K (mI (TK (vS μ c))) μ) : ∀ (d g : Nat), g + d = 8 → Tot e_X8_allPay K 4 [mO 7 c, mI (sumN (payC (vS μ c)) g), mI (nI g)] [] μ := by
  intro d
  induction d with
  | zero =>
    intro g hg
    refine g_X8_allPay_4 ?_
    have e : g = 8 := by omega
    subst e
    rw [if_pos (by decide)]
    exact h
  | succ d ih =>
    intro g hg
    refine g_X8_allPay_4 ?_
    rw [if_neg (show ¬ (8 : Int32) ≤ nI g from nI_ge (b := 8) (by omega) (by omega))]
    refine c_pays hw (by omega) ?_
    have := ih (g + 1) (by omega)
    rw [← nI_1] at this
    exact this
theorem c_allPay (hw : Wb (vS μ c)) (h : K (mI (TK (vS μ c))) μ) : s_X8_allPay [mO 7 c] μ K := g_X8_allPay (c_allPay_loop hw h 8 0 rfl)
theorem c_worthOfFirst (hw : Wb (vS μ c)) {g e : Nat} (hg : g < 8) (he : e ≤ 6) (h : K (mI (sw (vS μ c) g e)) μ) : s_X8_worthOfFirst [mO 7 c, mI (nI g), mI (nI e)] μ K := by
  refine g_X8_worthOfFirst ?_
  have lp : ∀ (d k : Nat), k + d = e → Tot e_X8_worthOfFirst K 5 [mO 7 c, mI (nI g), mI (nI e), mI (sw (vS μ c) g k), mI (nI k)] [] μ := by
    intro d
    induction d with
    | zero =>
      intro k hk
      have e1 : k = e := by omega
      subst e1
      refine g_X8_worthOfFirst_5 ?_
      rw [if_pos (nI_le (Nat.le_refl _) (by omega))]
      exact h
    | succ d ih =>
      intro k hk
      refine g_X8_worthOfFirst_5 ?_
      rw [if_neg (nI_ge (by omega) (by omega))]
      refine c_worthPlayed hw hg (by omega) ?_
      have := ih (k + 1) (by omega)
      rw [← nI_1] at this
      exact this
  exact lp e 0 (by omega)
end ST
end
section
/-! ===== the reference: its leaves, TAKINGS ===== -/
/-- the reference's cells that hold nothing between calls -/
def sMb (c k : Nat) : Bool := (Nat.beq c 55 && (Nat.beq k 15 || (Nat.beq k 21 || Nat.beq k 22))) || (Nat.ble 63 c && Nat.ble c 69)
def AgM (μ μ' : Mm) : Prop := ∀ c k, sMb c k = false → μ' c k = μ c k
theorem AgM.rf (μ : Mm) : AgM μ μ := fun _ _ _ => rfl
theorem AgM.tr {μ μ' μ'' : Mm} (h : AgM μ μ') (h' : AgM μ' μ'') : AgM μ μ'' := fun c k e => (h' c k e).trans (h c k e)
theorem AgM.st {μ μ' : Mm} (h : AgM μ μ') {c k : Nat} {x : Int32} (e : sMb c k = true) : AgM μ (mS μ' c k x) := fun c' k' e' => by
  rw [mS_ne (fun z => by rw [z.1, z.2, e] at e'; cases e')]
  exact h c' k' e'
theorem AgM.cell {μ μ' : Mm} (h : AgM μ μ') {c : Nat} (e : ∀ k, sMb c k = false) : μ' c = μ c := funext fun k => h c k (e k)
theorem AgM.vM {μ μ' : Mm} (h : AgM μ μ') : vM μ' = vM μ := by
  have e56 : μ' 56 = μ 56 := h.cell (fun _ => rfl)
  have e57 : μ' 57 = μ 57 := h.cell (fun _ => rfl)
  have e59 : μ' 59 = μ 59 := h.cell (fun _ => rfl)
  have e60 : μ' 60 = μ 60 := h.cell (fun _ => rfl)
  have e61 : μ' 61 = μ 61 := h.cell (fun _ => rfl)
  have f0 : μ' 55 0 = μ 55 0 := h 55 0 rfl
  have f1 : μ' 55 1 = μ 55 1 := h 55 1 rfl
  have f2 : μ' 55 2 = μ 55 2 := h 55 2 rfl
  have f3 : μ' 55 3 = μ 55 3 := h 55 3 rfl
  have f4 : μ' 55 4 = μ 55 4 := h 55 4 rfl
  have f5 : μ' 55 5 = μ 55 5 := h 55 5 rfl
  have f6 : μ' 55 11 = μ 55 11 := h 55 11 rfl
  funext r
  unfold Jvm.Pilot.CActsPaidLaw_law_r7702_241336.vM
  simp only [e56, e57, e59, e60, e61, f0, f1, f2, f3, f4, f5, f6]
theorem d_in {μ : Mm} {K : MV → Mm → Prop} {x a b : Int32} (h : K (mI (bI (decide (a ≤ x ∧ x ≤ b)))) μ) : s_X10_in [mI x, mI a, mI b] μ K := by
  refine g_X10_in ?_
  split
  · rename_i h1
    refine ⟨zb0, ?_⟩
    have e : decide (a ≤ x ∧ x ≤ b) = false := by simp [i_not_le_of_lt h1]
    rw [e] at h; exact h
  · rename_i h1
    split
    · rename_i h2
      refine ⟨zb0, ?_⟩
      have e : decide (a ≤ x ∧ x ≤ b) = false := by simp [i_not_le_of_lt h2]
      rw [e] at h; exact h
    · rename_i h2
      refine ⟨zb1, ?_⟩
      have e : decide (a ≤ x ∧ x ≤ b) = true := by simp [i_le_of_not_lt h1, i_le_of_not_lt h2]
      rw [e] at h; exact h
theorem d_has {μ : Mm} {K : MV → Mm → Prop} {x a : Int32} (h : K (mI (bI (decide ((x >>> (a &&& 31)) &&& 1 = 1)))) μ) : s_X10_has [mI x, mI a] μ K := by
  refine g_X10_has ?_
  split
  · rename_i h1
    rw [decide_eq_true h1] at h
    exact ⟨zb1, h⟩
  · rename_i h1
    rw [decide_eq_false h1] at h
    exact ⟨zb0, h⟩
theorem d_isAct {μ : Mm} {K : MV → Mm → Prop} {a : Int32} (h : K (mI (bI (decide (0 ≤ a ∧ a ≤ μ 55 0 - 1)))) μ) : s_X10_isAct [mO 9 55, mI a] μ K :=
  g_X10_isAct (d_in ⟨zb_bI, h⟩)
theorem d_comes {μ : Mm} {K : MV → Mm → Prop} {a : Int32} (h : K (mI (bI (cmB (vM μ) a))) μ) : s_X10_comes [mO 9 55, mI a] μ K := by
  refine g_X10_comes (d_in ?_)
  rw [vI_mI, ite_b]
  have e0 : cmB (vM μ) a = (decide (0 ≤ a ∧ a ≤ 7) && decide ((μ 55 1 >>> (a &&& 31)) &&& 1 = 1)) := rfl
  rw [e0] at h
  cases hd : decide (0 ≤ a ∧ a ≤ 7) with
  | false =>
    rw [hd] at h
    exact ⟨zb0, h⟩
  | true =>
    rw [hd, Bool.true_and] at h
    rw [cond_true]
    refine d_has ?_
    rw [vI_mI, ite_b]
    cases he : decide ((μ 55 1 >>> (a &&& 31)) &&& 1 = 1) with
    | false => rw [he] at h; exact ⟨zb0, h⟩
    | true => rw [he] at h; exact ⟨zb1, h⟩
theorem cmB_8 {v : Vw} {g : Nat} (hg : g < 8) : cmB v (nI g) = decide ((v 0 1 >>> (nI g &&& 31)) &&& 1 = 1) := by
  unfold cmB
  have h : decide (0 ≤ nI g ∧ nI g ≤ 7) = true := decide_eq_true ⟨nI_pos' (by omega), nI_le (b := 7) (by omega) (by omega)⟩
  rw [h, Bool.true_and]
def W9 (v : Vw) : Prop := ∃ k, k ≤ 9 ∧ v 0 3 = nI k
section MT
variable {μ : Mm} {K : MV → Mm → Prop}
theorem wbM_wp (hw : Wb (vM μ)) {g j : Nat} (hg : g < 8) (hj : j < 6) : 6 * g + oA (vM μ) j < 48 ∧ wp (vM μ) g j = μ 56 (6 * g + oA (vM μ) j) ∧ μ 57 j = nI (oA (vM μ) j) := by
  have h := (hw.2 j hj).1
  have h2 : 6 * g + oA (vM μ) j < 48 := by omega
  exact ⟨h2, tr_at h2, (tr_at (f := μ 57) hj).symm.trans (hw.2 j hj).2⟩
theorem d_faresOf {b : Int32} {e : Nat} (hs : W9 (vM μ)) (he : e ≤ 6) (h : K (mI (fr b (μ 55 3) e)) μ) : s_X10_faresOf [mO 9 55, mI b, mI (nI e)] μ K := by
  refine g_X10_faresOf ⟨by decide, ?_⟩
  rw [fr_ref he (s := μ 55 3) hs]
  exact h
theorem d_leavesAt (hw : Wb (vM μ)) (hs : W9 (vM μ)) {g : Nat} (hg : g < 8) (h : ∀ μ', AgM μ μ' → μ' 55 15 = OWN (vM μ) g → K (mI (nI (LV (vM μ) g))) μ') : s_X10_leavesAt [mO 9 55, mI (nI g)] μ K := by
  refine g_X10_leavesAt ?_
  have hn : μ 55 0 = nI (nA (vM μ)) := hw.1.2.2
  have h6 := hw.1.2.1
  have lp : ∀ (d k : Nat) (z : MV) (μ' : Mm), k + d = nA (vM μ) → AgM μ μ' → μ' 55 15 = (lv (vM μ) g k).2 →
      Tot e_X10_leavesAt K 12 [mO 9 55, mI (nI g), mI (nI (lv (vM μ) g k).1), mI (sw (vM μ) g k), mI (nI (k + 1)), z] [] μ' := by
    intro d
    induction d with
    | zero =>
      intro k z μ' hk ha ho
      refine g_X10_leavesAt_12 ?_
      have e : k = nA (vM μ) := by omega
      rw [ha 55 0 rfl, hn, if_pos (nI_lt (by omega) (by omega))]
      rw [e] at ho ⊢
      exact h μ' ha ho
    | succ d ih =>
      intro k z μ' hk ha ho
      refine g_X10_leavesAt_12 ?_
      obtain ⟨w1, w2, w3⟩ := wbM_wp hw hg (j := k) (by omega)
      have e1 : nI (k + 1) - 1 = nI k := nI_pred k
      have e57 : μ' 57 = μ 57 := ha.cell (fun _ => rfl)
      have e56 : μ' 56 = μ 56 := ha.cell (fun _ => rfl)
      have ex : 6 * nI g + nI (oA (vM μ) k) = nI (6 * g + oA (vM μ) k) := by
        rw [show (6 : Int32) * nI g = nI 6 * nI g from rfl, nI_mul, nI_add]
      rw [if_neg (by rw [ha 55 0 rfl, hn]; exact nI_nlt (by omega) (by omega)), e1, nI_clamp (by omega), e57, w3, ex, nI_clamp (by omega), e56, ← w2]
      refine ⟨vi_nI (by omega) (by decide), vi_nI w1 (by decide), ?_⟩
      have hv : vM μ' = vM μ := ha.vM
      refine d_faresOf (by rw [hv]; exact hs) (by omega) ?_
      rw [vI_mI, ho, ha 55 0 rfl, ha 55 2 rfl, ha 55 3 rfl, ha 55 4 rfl]
      have es : sw (vM μ) g k + wp (vM μ) g k = sw (vM μ) g (k + 1) := rfl
      rw [es]
      have hl : lv (vM μ) g (k + 1) = if (lv (vM μ) g k).2 < sw (vM μ) g (k + 1) - fr (μ 55 2) (μ 55 3) (k + 1) ∧ (μ 55 4 = 0 ∨ k + 1 = nA (vM μ)) then (k + 1, sw (vM μ) g (k + 1) - fr (μ 55 2) (μ 55 3) (k + 1)) else lv (vM μ) g k := rfl
      have hlaw : (nI (k + 1) = μ 55 0) ↔ k + 1 = nA (vM μ) := by
        rw [hn, nI_eq (by omega) (by omega)]
      have no : ∀ y : MV, ¬ ((lv (vM μ) g k).2 < sw (vM μ) g (k + 1) - fr (μ 55 2) (μ 55 3) (k + 1) ∧ (μ 55 4 = 0 ∨ k + 1 = nA (vM μ))) → Tot e_X10_leavesAt K 12 [mO 9 55, mI (nI g), mI (nI (lv (vM μ) g k).1), mI (sw (vM μ) g (k + 1)), mI (nI (k + 1) + 1), y] [] μ' := fun y hno => by
        have := ih (k + 1) y μ' (by omega) ha (by rw [hl, if_neg hno]; exact ho)
        rw [hl, if_neg hno, ← nI_1] at this
        exact this
      have yes : ∀ y : MV, ((lv (vM μ) g k).2 < sw (vM μ) g (k + 1) - fr (μ 55 2) (μ 55 3) (k + 1) ∧ (μ 55 4 = 0 ∨ k + 1 = nA (vM μ))) → Tot e_X10_leavesAt K 12 [mO 9 55, mI (nI g), mI (nI (k + 1)), mI (sw (vM μ) g (k + 1)), mI (nI (k + 1) + 1), y] [] (mS μ' 55 15 (sw (vM μ) g (k + 1) - fr (μ 55 2) (μ 55 3) (k + 1))) := fun y hyes => by
        have := ih (k + 1) y (mS μ' 55 15 (sw (vM μ) g (k + 1) - fr (μ 55 2) (μ 55 3) (k + 1))) (by omega) (ha.st rfl) (by rw [mS_eq, hl, if_pos hyes])
        rw [hl, if_pos hyes, ← nI_1 (k + 1)] at this
        exact this
      split
      · rename_i q
        exact no _ (fun z => absurd z.1 (i_not_lt_of_le q))
      · rename_i q
        have q := i_lt_of_not_le q
        split
        · rename_i q2
          exact yes _ ⟨q, Or.inl q2⟩
        · rename_i q2
          split
          · rename_i q3
            exact yes _ ⟨q, Or.inr (hlaw.mp q3)⟩
          · rename_i q3
            exact no _ (fun z => z.2.elim q2 (fun z => q3 (hlaw.mpr z)))
  have := lp (nA (vM μ)) 0 mU (mS μ 55 15 0) (by omega) ((AgM.rf μ).st rfl) mS_eq
  exact this
theorem d_paysOf (hw : Wb (vM μ)) (hs : W9 (vM μ)) {g : Nat} (hg : g < 8) (h : ∀ μ', AgM μ μ' → K (mI (pay (vM μ) g)) μ') : s_X10_paysOf [mO 9 55, mI (nI g)] μ K := by
  refine g_X10_paysOf (d_leavesAt hw hs hg fun μ' ha ho => ?_)
  rw [vI_mI]
  refine d_faresOf (by rw [ha.vM]; exact hs) (Nat.le_trans LV_le hw.1.2.1) ?_
  rw [ha 55 3 rfl]
  exact h μ' ha
theorem d_allTakings (hw : Wb (vM μ)) (hs : W9 (vM μ)) (h : ∀ μ', AgM μ μ' → K (mI (TK (vM μ))) μ') : s_X10_allTakings [mO 9 55] μ K := by
  refine g_X10_allTakings ?_
  have lp : ∀ (d g : Nat) (μ' : Mm), g + d = 8 → AgM μ μ' → Tot e_X10_allTakings K 4 [mO 9 55, mI (sumN (payC (vM μ)) g), mI (nI g)] [] μ' := by
    intro d
    induction d with
    | zero =>
      intro g μ' hg ha
      refine g_X10_allTakings_4 ?_
      have e : g = 8 := by omega
      subst e
      rw [if_pos (by decide)]
      exact h μ' ha
    | succ d ih =>
      intro g μ' hg ha
      refine g_X10_allTakings_4 ?_
      rw [if_neg (show ¬ (8 : Int32) ≤ nI g from nI_ge (b := 8) (by omega) (by omega))]
      refine d_has ?_
      have hcm : decide ((μ 55 1 >>> (nI g &&& 31)) &&& 1 = 1) = cmB (vM μ) (nI g) := (cmB_8 (v := vM μ) (by omega)).symm
      rw [vI_mI, ite_b, ha 55 1 rfl, hcm]
      have hp : payC (vM μ) g = bif cmB (vM μ) (nI g) then pay (vM μ) g else 0 := rfl
      have hv : vM μ' = vM μ := ha.vM
      cases hc : cmB (vM μ) (nI g) with
      | false =>
        rw [hc] at hp
        have := ih (g + 1) μ' (by omega) ha
        rw [← nI_1, show sumN (payC (vM μ)) (g + 1) = sumN (payC (vM μ)) g + payC (vM μ) g from rfl, hp] at this
        exact this
      | true =>
        rw [hc] at hp
        refine d_paysOf (by rw [hv]; exact hw) (by rw [hv]; exact hs) (by omega) fun μ2 ha2 => ?_
        have := ih (g + 1) μ2 (by omega) (ha.tr ha2)
        rw [← nI_1, show sumN (payC (vM μ)) (g + 1) = sumN (payC (vM μ)) g + payC (vM μ) g from rfl, hp, cond_true] at this
        rw [vI_mI, hv]
        exact this
  exact lp 8 0 μ rfl (AgM.rf μ)
end MT
end
section
/-! ===== what the two states have to do with each other ===== -/
def bb (x : Int32) (k : Nat) : Bool := decide ((x >>> (nI k &&& 31)) &&& 1 = 1)
def FrW (f : Nat → Int32) : Prop := (∀ g, g < 8 → ∃ k, k < 256 ∧ f g = nI k) ∧ (∀ g h, g < 8 → h < 8 → bb (f g) h = bb (f h) g) ∧ ∀ g, g < 8 → bb (f g) g = false
def Wf (v : Vw) : Prop := Wb v ∧ W9 v ∧ (∃ b, b ≤ 30 ∧ v 0 2 = nI b) ∧ (∃ b, b ≤ 30 ∧ v 0 5 = nI b) ∧ zb (v 0 4) ∧ (∃ c, c < 256 ∧ v 0 1 = nI c) ∧ (∃ k, k ≤ 6 ∧ v 0 6 = nI k) ∧ FrW (v 4)
def pth (f : Nat → Int32) : Nat → Nat → Nat → Prop
  | 0, x, y => bb (f x) y = true
  | n + 1, x, y => ∃ z, z < 6 ∧ bb (f x) z = true ∧ pth f n z y
/-- the class's rows are what follows through others too; the reference's are the pairs told -/
def Pm (n : Nat) (f g : Nat → Int32) : Prop := (∀ x, x < 6 → ∃ k, k < 64 ∧ f x = nI k) ∧ (∀ x, x < 6 → ∃ k, k < 64 ∧ g x = nI k) ∧ (∀ x y, x < 6 → y < 6 → bb (g x) y = true → x < n ∧ y < n) ∧ (∀ x y, x < 6 → y < 6 → (bb (f x) y = true ↔ ∃ m, pth g m x y)) ∧ ∀ x, x < 6 → bb (f x) x = false
def Pp (k1 : Int32) (p1 : Nat → Int32) (k2 : Int32) (p2 : Nat → Int32) : Prop := k1 = k2 ∧ (∃ k, k ≤ 48 ∧ k2 = nI k) ∧ ∀ i, i < 48 → p1 i = p2 i
def vIm (im : Nat → Int32) (o : Nat) : Vw := fun r => match r with
  | 0 => fun i => match i with
    | 0 => im (o + 84)
    | 1 => im (o + 85)
    | 2 => im (o + 86)
    | 3 => im (o + 87)
    | 4 => im (o + 88)
    | 5 => im (o + 89)
    | 6 => im (o + 90)
    | _ => 0
  | 1 => tr 48 (fun i => im (o + i))
  | 2 => tr 6 (fun i => im (o + 48 + i))
  | 3 => tr 6 (fun i => im (o + 60 + i))
  | 4 => tr 8 (fun i => im (o + 91 + i))
  | 5 => tr 6 (fun i => im (o + 66 + 3 * i))
  | 6 => tr 6 (fun i => im (o + 66 + (3 * i + 1)))
  | 7 => tr 6 (fun i => im (o + 66 + (3 * i + 2)))
  | _ => fun _ => 0
def Pi1 (t : Int32) (v : Vw) (af im : Nat → Int32) (o : Nat) (t2 : Int32) : Prop := t = t2 ∧ zb t2 ∧ (t2 = 1 → v = vIm im o ∧ Wf v ∧ Pm (nA v) af (fun a => im (o + 54 + a)))
def Rl (μ : Mm) : Prop := (vS μ 3 = vM μ ∧ Wf (vM μ)) ∧ Pp (μ 1 1) (μ 2) (μ 55 13) (μ 62) ∧ Pm (nA (vM μ)) (μ 7) (μ 58) ∧ Pi1 (μ 23 1) (vS μ 24) (μ 28) (μ 70) 0 (μ 71 0) ∧ Pi1 (μ 34 1) (vS μ 35) (μ 39) (μ 70) 100 (μ 71 1)
/-- the class's cells that hold nothing between calls -/
def sXb (c _k : Nat) : Bool := (Nat.ble 13 c && Nat.ble c 22) || (Nat.ble 45 c && Nat.ble c 54)
def AgX (μ μ' : Mm) : Prop := ∀ c k, sXb c k = false → μ' c k = μ c k
theorem AgX.rf (μ : Mm) : AgX μ μ := fun _ _ _ => rfl
theorem AgX.tr {μ μ' μ'' : Mm} (h : AgX μ μ') (h' : AgX μ' μ'') : AgX μ μ'' := fun c k e => (h' c k e).trans (h c k e)
theorem AgX.st {μ μ' : Mm} (h : AgX μ μ') {c k : Nat} {x : Int32} (e : sXb c k = true) : AgX μ (mS μ' c k x) := fun c' k' e' => by
  rw [mS_ne (fun z => by rw [z.1, z.2, e] at e'; cases e')]
  exact h c' k' e'
theorem AgX.cell {μ μ' : Mm} (h : AgX μ μ') {c : Nat} (e : ∀ k, sXb c k = false) : μ' c = μ c := funext fun k => h c k (e k)
theorem vS_congr {μ μ' : Mm} {c : Nat} (h : ∀ d, d ≤ 9 → μ' (c + d) = μ (c + d)) : vS μ' c = vS μ c := by
  have e0 : μ' c = μ c := h 0 (by omega)
  funext r
  unfold vS
  simp only [e0, h 1 (by omega), h 2 (by omega), h 3 (by omega), h 5 (by omega), h 6 (by omega), h 7 (by omega), h 8 (by omega), h 9 (by omega)]
theorem vM_congr {μ μ' : Mm} (h55 : ∀ k, k < 6 → μ' 55 k = μ 55 k) (h11 : μ' 55 11 = μ 55 11) (e56 : μ' 56 = μ 56) (e57 : μ' 57 = μ 57) (e59 : μ' 59 = μ 59) (e60 : μ' 60 = μ 60) (e61 : μ' 61 = μ 61) : vM μ' = vM μ := by
  funext r
  unfold vM
  simp only [e56, e57, e59, e60, e61, h55 0 (by omega), h55 1 (by omega), h55 2 (by omega), h55 3 (by omega), h55 4 (by omega), h55 5 (by omega), h11]
theorem le9 {p : Nat → Prop} (h0 : p 0) (h1 : p 1) (h2 : p 2) (h3 : p 3) (h4 : p 4) (h5 : p 5) (h6 : p 6) (h7 : p 7) (h8 : p 8) (h9 : p 9) (d : Nat) (hd : d ≤ 9) : p d := by
  have : d = 0 ∨ d = 1 ∨ d = 2 ∨ d = 3 ∨ d = 4 ∨ d = 5 ∨ d = 6 ∨ d = 7 ∨ d = 8 ∨ d = 9 := by omega
  rcases this with rfl | rfl | rfl | rfl | rfl | rfl | rfl | rfl | rfl | rfl
  · exact h0
  · exact h1
  · exact h2
  · exact h3
  · exact h4
  · exact h5
  · exact h6
  · exact h7
  · exact h8
  · exact h9
theorem AgX.Rl {μ μ' : Mm} (h : AgX μ μ') (r : Rl μ) : Rl μ' := by
  have e3 : vS μ' 3 = vS μ 3 := vS_congr (le9 (p := fun d => μ' (3 + d) = μ (3 + d)) (h.cell fun _ => rfl) (h.cell fun _ => rfl) (h.cell fun _ => rfl) (h.cell fun _ => rfl) (h.cell fun _ => rfl) (h.cell fun _ => rfl) (h.cell fun _ => rfl) (h.cell fun _ => rfl) (h.cell fun _ => rfl) (h.cell fun _ => rfl))
  have e24 : vS μ' 24 = vS μ 24 := vS_congr (le9 (p := fun d => μ' (24 + d) = μ (24 + d)) (h.cell fun _ => rfl) (h.cell fun _ => rfl) (h.cell fun _ => rfl) (h.cell fun _ => rfl) (h.cell fun _ => rfl) (h.cell fun _ => rfl) (h.cell fun _ => rfl) (h.cell fun _ => rfl) (h.cell fun _ => rfl) (h.cell fun _ => rfl))
  have e35 : vS μ' 35 = vS μ 35 := vS_congr (le9 (p := fun d => μ' (35 + d) = μ (35 + d)) (h.cell fun _ => rfl) (h.cell fun _ => rfl) (h.cell fun _ => rfl) (h.cell fun _ => rfl) (h.cell fun _ => rfl) (h.cell fun _ => rfl) (h.cell fun _ => rfl) (h.cell fun _ => rfl) (h.cell fun _ => rfl) (h.cell fun _ => rfl))
  have eM : vM μ' = vM μ := vM_congr (fun k _ => h 55 k rfl) (h 55 11 rfl) (h.cell fun _ => rfl) (h.cell fun _ => rfl) (h.cell fun _ => rfl) (h.cell fun _ => rfl) (h.cell fun _ => rfl)
  have c2 : μ' 2 = μ 2 := h.cell fun _ => rfl
  have c7 : μ' 7 = μ 7 := h.cell fun _ => rfl
  have c62 : μ' 62 = μ 62 := h.cell fun _ => rfl
  have c58 : μ' 58 = μ 58 := h.cell fun _ => rfl
  have c28 : μ' 28 = μ 28 := h.cell fun _ => rfl
  have c39 : μ' 39 = μ 39 := h.cell fun _ => rfl
  have c70 : μ' 70 = μ 70 := h.cell fun _ => rfl
  unfold Jvm.Pilot.CActsPaidLaw_law_r7702_241336.Rl
  rw [e3, e24, e35, eM, c2, c7, c62, c58, c28, c39, c70, h 1 1 rfl, h 55 13 rfl, h 23 1 rfl, h 34 1 rfl, h 71 0 rfl, h 71 1 rfl]
  exact r
theorem AgM.Rl {μ μ' : Mm} (h : AgM μ μ') (r : Rl μ) : Rl μ' := by
  have e3 : vS μ' 3 = vS μ 3 := vS_congr (le9 (p := fun d => μ' (3 + d) = μ (3 + d)) (h.cell fun _ => rfl) (h.cell fun _ => rfl) (h.cell fun _ => rfl) (h.cell fun _ => rfl) (h.cell fun _ => rfl) (h.cell fun _ => rfl) (h.cell fun _ => rfl) (h.cell fun _ => rfl) (h.cell fun _ => rfl) (h.cell fun _ => rfl))
  have e24 : vS μ' 24 = vS μ 24 := vS_congr (le9 (p := fun d => μ' (24 + d) = μ (24 + d)) (h.cell fun _ => rfl) (h.cell fun _ => rfl) (h.cell fun _ => rfl) (h.cell fun _ => rfl) (h.cell fun _ => rfl) (h.cell fun _ => rfl) (h.cell fun _ => rfl) (h.cell fun _ => rfl) (h.cell fun _ => rfl) (h.cell fun _ => rfl))
  have e35 : vS μ' 35 = vS μ 35 := vS_congr (le9 (p := fun d => μ' (35 + d) = μ (35 + d)) (h.cell fun _ => rfl) (h.cell fun _ => rfl) (h.cell fun _ => rfl) (h.cell fun _ => rfl) (h.cell fun _ => rfl) (h.cell fun _ => rfl) (h.cell fun _ => rfl) (h.cell fun _ => rfl) (h.cell fun _ => rfl) (h.cell fun _ => rfl))
  have c2 : μ' 2 = μ 2 := h.cell fun _ => rfl
  have c7 : μ' 7 = μ 7 := h.cell fun _ => rfl
  have c62 : μ' 62 = μ 62 := h.cell fun _ => rfl
  have c58 : μ' 58 = μ 58 := h.cell fun _ => rfl
  have c28 : μ' 28 = μ 28 := h.cell fun _ => rfl
  have c39 : μ' 39 = μ 39 := h.cell fun _ => rfl
  have c70 : μ' 70 = μ 70 := h.cell fun _ => rfl
  unfold Jvm.Pilot.CActsPaidLaw_law_r7702_241336.Rl
  rw [e3, e24, e35, h.vM, c2, c7, c62, c58, c28, c39, c70, h 1 1 rfl, h 55 13 rfl, h 23 1 rfl, h 34 1 rfl, h 71 0 rfl, h 71 1 rfl]
  exact r
/-- the two answers are one, and the states go on as they should -/
def Gd (v1 v2 : MV) (μ : Mm) : Prop := v1 = v2 ∧ Rl μ
theorem Rl.v {μ : Mm} (r : Rl μ) : vS μ 3 = vM μ := r.1.1
theorem Rl.wf {μ : Mm} (r : Rl μ) : Wf (vM μ) := r.1.2
theorem Rl.wb {μ : Mm} (r : Rl μ) : Wb (vM μ) := r.1.2.1
theorem Rl.w9 {μ : Mm} (r : Rl μ) : W9 (vM μ) := r.1.2.2.1
theorem Rl.wbX {μ : Mm} (r : Rl μ) : Wb (vS μ 3) := by rw [r.v]; exact r.wb
theorem Rl.n3 {μ : Mm} (r : Rl μ) : μ 3 0 = nI (nA (vM μ)) := by
  have h := r.wbX.1.2.2
  rw [r.v] at h
  rw [← h, ← r.v]
  rfl
theorem Rl.n55 {μ : Mm} (r : Rl μ) : μ 55 0 = nI (nA (vM μ)) := r.wb.1.2.2
theorem act_in {n : Nat} {a : Int32} (h1 : 1 ≤ n) (h6 : n ≤ 6) (h : decide (0 ≤ a ∧ a ≤ nI n - 1) = true) : ∃ k, k < n ∧ a = nI k := by
  have h := of_decide_eq_true h
  rw [show (1 : Int32) = nI 1 from rfl, nI_sub h1] at h
  obtain ⟨k, hk, rfl⟩ := nI_btw (by omega) h.1 h.2
  exact ⟨k, by omega, rfl⟩
theorem gst_in {v : Vw} {a : Int32} (h : cmB v a = true) : ∃ g, g < 8 ∧ a = nI g := by
  unfold cmB at h
  simp only [Bool.and_eq_true, decide_eq_true_eq] at h
  obtain ⟨k, hk, rfl⟩ := nI_btw (n := 7) (by omega) h.1.1 h.1.2
  exact ⟨k, by omega, rfl⟩
theorem cell_eq {μ : Mm} (r : Rl μ) (a b : Nat) : vS μ 3 a b = vM μ a b := by rw [r.v]
theorem call_takings {μ : Mm} (r : Rl μ) : s_X9_takings [mO 8 0] μ (fun v1 μ1 => s_X10_takings [mO 9 55] μ1 (fun v2 μ2 => Gd v1 v2 μ2)) :=
  g_X9_takings (c_allPay r.wbX (g_X10_takings (d_allTakings r.wb r.w9 fun μ' ha => ⟨by rw [r.v], ha.Rl r⟩)))
theorem call_leaves {μ : Mm} (r : Rl μ) (a b : Int32) : s_X9_leaves [mO 8 0, mI a, mI b] μ (fun v1 μ1 => s_X10_leaves [mO 9 55, mI a, mI b] μ1 (fun v2 μ2 => Gd v1 v2 μ2)) := by
  refine g_X9_leaves (c_comes ?_)
  rw [vI_mI, ite_b, r.v]
  cases hc : cmB (vM μ) a with
  | false =>
    refine g_X10_leaves (d_comes ?_)
    rw [vI_mI, ite_b, hc]
    exact ⟨rfl, r⟩
  | true =>
    obtain ⟨g, hg, rfl⟩ := gst_in hc
    refine c_within ?_
    rw [vI_mI, ite_b]
    cases hb : decide (0 ≤ b ∧ b ≤ 2) with
    | false =>
      refine g_X10_leaves (d_comes ?_)
      rw [vI_mI, ite_b, hc]
      refine d_in ?_
      rw [vI_mI, ite_b, hb]
      exact ⟨rfl, r⟩
    | true =>
      have h6 : LV (vS μ 3) g ≤ 6 := Nat.le_trans LV_le r.wbX.1.2.1
      refine c_behind r.wbX hg ?_
      rw [vI_mI]
      refine c_price h6 ?_
      rw [vI_mI]
      have e2 : ∀ x : MV, ∀ μ1 : Mm, μ1 = μ → (∀ μ', AgM μ μ' → x = (if b = 0 then mI (nI (LV (vM μ) g)) else if b = 1 then mI (pay (vM μ) g) else mI (OWN (vM μ) g))) → s_X10_leaves [mO 9 55, mI (nI g), mI b] μ1 (fun v2 μ2 => Gd x v2 μ2) := by
        intro x μ1 e hx
        subst e
        refine g_X10_leaves (d_comes ?_)
        rw [vI_mI, ite_b, hc]
        refine d_in ?_
        rw [vI_mI, ite_b, hb]
        refine d_leavesAt r.wb r.w9 hg fun μ' ha ho => ?_
        have hx := hx μ' ha
        rw [vI_mI]
        split
        · rename_i q
          rw [if_pos q] at hx
          exact ⟨hx, ha.Rl r⟩
        · rename_i q
          rw [if_neg q] at hx
          split
          · rename_i q2
            rw [if_pos q2] at hx
            refine d_faresOf (by rw [ha.vM]; exact r.w9) (Nat.le_trans LV_le r.wb.1.2.1) ?_
            rw [ha 55 2 rfl, ha 55 3 rfl]
            exact ⟨hx, ha.Rl r⟩
          · rename_i q2
            rw [if_neg q2] at hx
            rw [ho]
            exact ⟨hx, ha.Rl r⟩
      split
      · rename_i q
        exact e2 _ _ rfl (fun _ _ => by rw [if_pos q, r.v])
      · rename_i q
        split
        · rename_i q2
          refine e2 _ _ rfl (fun _ _ => ?_)
          rw [if_neg q, if_pos q2, ← r.v]
          rfl
        · rename_i q2
          refine c_worthOfFirst r.wbX hg h6 ?_
          refine e2 _ _ rfl (fun _ _ => ?_)
          rw [if_neg q, if_neg q2, ← r.v]
          congr 1
          exact (lv_own _).symm
end
section
/-! ===== calls that change nothing, easy ones ===== -/
theorem Rl.e1 {μ : Mm} (r : Rl μ) {i : Nat} (h : i < 48) : μ 5 i = μ 56 i := by
  have := cell_eq r 1 i
  exact ((tr_at (f := μ 5) h).symm.trans this).trans (tr_at (f := μ 56) h)
theorem Rl.e2 {μ : Mm} (r : Rl μ) {i : Nat} (h : i < 6) : μ 4 i = μ 57 i := by
  have := cell_eq r 2 i
  exact ((tr_at (f := μ 4) h).symm.trans this).trans (tr_at (f := μ 57) h)
theorem Rl.e3 {μ : Mm} (r : Rl μ) {i : Nat} (h : i < 6) : μ 6 i = μ 59 i := by
  have := cell_eq r 3 i
  exact ((tr_at (f := μ 6) h).symm.trans this).trans (tr_at (f := μ 59) h)
theorem Rl.e4 {μ : Mm} (r : Rl μ) {i : Nat} (h : i < 8) : μ 8 i = μ 60 i := by
  have := cell_eq r 4 i
  exact ((tr_at (f := μ 8) h).symm.trans this).trans (tr_at (f := μ 60) h)
theorem Rl.e5 {μ : Mm} (r : Rl μ) {i : Nat} (h : i < 6) : μ 10 i = μ 61 (3 * i) := by
  have := cell_eq r 5 i
  exact ((tr_at (f := μ 10) h).symm.trans this).trans (tr_at (f := fun i => μ 61 (3 * i)) h)
theorem Rl.e6 {μ : Mm} (r : Rl μ) {i : Nat} (h : i < 6) : μ 11 i = μ 61 (3 * i + 1) := by
  have := cell_eq r 6 i
  exact ((tr_at (f := μ 11) h).symm.trans this).trans (tr_at (f := fun i => μ 61 (3 * i + 1)) h)
theorem Rl.e7 {μ : Mm} (r : Rl μ) {i : Nat} (h : i < 6) : μ 12 i = μ 61 (3 * i + 2) := by
  have := cell_eq r 7 i
  exact ((tr_at (f := μ 12) h).symm.trans this).trans (tr_at (f := fun i => μ 61 (3 * i + 2)) h)
theorem Rl.s0 {μ : Mm} (r : Rl μ) : μ 3 0 = μ 55 0 := cell_eq r 0 0
theorem Rl.s1 {μ : Mm} (r : Rl μ) : μ 3 5 = μ 55 1 := cell_eq r 0 1
theorem Rl.s2 {μ : Mm} (r : Rl μ) : μ 3 1 = μ 55 2 := cell_eq r 0 2
theorem Rl.s3 {μ : Mm} (r : Rl μ) : μ 3 2 = μ 55 3 := cell_eq r 0 3
theorem Rl.s4 {μ : Mm} (r : Rl μ) : μ 3 3 = μ 55 4 := cell_eq r 0 4
theorem Rl.s5 {μ : Mm} (r : Rl μ) : μ 3 4 = μ 55 5 := cell_eq r 0 5
theorem Rl.s6 {μ : Mm} (r : Rl μ) : μ 9 0 = μ 55 11 := cell_eq r 0 6
theorem Rl.n1 {μ : Mm} (r : Rl μ) : 1 ≤ nA (vM μ) := r.wb.1.1
theorem Rl.n6 {μ : Mm} (r : Rl μ) : nA (vM μ) ≤ 6 := r.wb.1.2.1
theorem lit6 (g a : Nat) : (6 : Int32) * nI g + nI a = nI (6 * g + a) := by rw [show (6 : Int32) * nI g = nI 6 * nI g from rfl, nI_mul, nI_add]
theorem lit6' (g a : Nat) : nI g * (6 : Int32) + nI a = nI (6 * g + a) := by rw [show nI g * (6 : Int32) = nI g * nI 6 from rfl, nI_mul, nI_add, Nat.mul_comm]
theorem call_worth {μ : Mm} (r : Rl μ) (a b : Int32) : s_X9_worth [mO 8 0, mI a, mI b] μ (fun v1 μ1 => s_X10_worth [mO 9 55, mI a, mI b] μ1 (fun v2 μ2 => Gd v1 v2 μ2)) := by
  refine g_X9_worth (c_comes ?_)
  rw [vI_mI, ite_b, r.v]
  cases hc : cmB (vM μ) a with
  | false =>
    refine g_X10_worth (d_comes ?_)
    rw [vI_mI, ite_b, hc]
    exact ⟨rfl, r⟩
  | true =>
    obtain ⟨g, hg, rfl⟩ := gst_in hc
    refine c_hasAct ?_
    rw [vI_mI, ite_b, r.n3]
    cases hb : decide (0 ≤ b ∧ b ≤ nI (nA (vM μ)) - 1) with
    | false =>
      refine g_X10_worth (d_comes ?_)
      rw [vI_mI, ite_b, hc]
      refine d_isAct ?_
      rw [vI_mI, ite_b, r.n55, hb]
      exact ⟨rfl, r⟩
    | true =>
      obtain ⟨k, hk, rfl⟩ := act_in r.n1 r.n6 hb
      have h6 := r.n6
      refine g_X8_worthTo ?_
      rw [lit6']
      refine c_at (by omega) (by decide) ?_
      refine g_X10_worth (d_comes ?_)
      rw [vI_mI, ite_b, hc]
      refine d_isAct ?_
      rw [vI_mI, ite_b, r.n55, hb, lit6, nI_clamp (by omega)]
      refine ⟨vi_nI (by omega) (by decide), ?_, r⟩
      rw [vI_mI, vI_mI, r.e1 (by omega)]
      congr 1
      grind
/-- how many of the first guests stay through an act -/
def stN (v : Vw) (k : Nat) : Nat → Int32
  | 0 => 0
  | g + 1 => bif cmB v (nI g) then (if nI (LV v g) ≤ nI k then stN v k g else stN v k g + 1) else stN v k g
theorem call_stayed {μ : Mm} (r : Rl μ) (a : Int32) : s_X9_stayed [mO 8 0, mI a] μ (fun v1 μ1 => s_X10_stayed [mO 9 55, mI a] μ1 (fun v2 μ2 => Gd v1 v2 μ2)) := by
  refine g_X9_stayed (c_hasAct ?_)
  rw [vI_mI, ite_b, r.n3]
  cases hb : decide (0 ≤ a ∧ a ≤ nI (nA (vM μ)) - 1) with
  | false =>
    refine g_X10_stayed (d_isAct ?_)
    rw [vI_mI, ite_b, r.n55, hb]
    exact ⟨rfl, r⟩
  | true =>
    obtain ⟨k, hk, rfl⟩ := act_in r.n1 r.n6 hb
    have h6 := r.n6
    have hL : ∀ g, LV (vM μ) g ≤ 6 := fun g => Nat.le_trans LV_le r.n6
    have key : ∃ f : Nat → Int32, f 0 = 0 ∧ ∀ g, g < 8 → f (g + 1) = (bif cmB (vM μ) (nI g) then (if nI (LV (vM μ) g) ≤ nI k then f g else f g + 1) else f g) := ⟨stN (vM μ) k, rfl, fun _ _ => rfl⟩
    obtain ⟨f, f0, fs⟩ := key
    have lm : ∀ (d g : Nat) (μ' : Mm), g + d = 8 → AgM μ μ' → Tot e_X10_stayed (fun v2 μ2 => Gd (mI (f 8)) v2 μ2) 14 [mO 9 55, mI (nI k), mI (f g), mI (nI g)] [] μ' := by
      intro d
      induction d with
      | zero =>
        intro g μ' hg ha
        have e : g = 8 := by omega
        subst e
        refine g_X10_stayed_14 ?_
        rw [if_pos (by decide)]
        exact ⟨rfl, ha.Rl r⟩
      | succ d ih =>
        intro g μ' hg ha
        have hcm : decide ((μ 55 1 >>> (nI g &&& 31)) &&& 1 = 1) = cmB (vM μ) (nI g) := (cmB_8 (v := vM μ) (by omega)).symm
        have hs := fs g (by omega)
        refine g_X10_stayed_14 ?_
        rw [if_neg (show ¬ (8 : Int32) ≤ nI g from nI_ge (b := 8) (by omega) (by omega))]
        refine d_has ?_
        rw [vI_mI, ite_b, ha 55 1 rfl, hcm]
        cases hc : cmB (vM μ) (nI g) with
        | false =>
          rw [hc, cond_false] at hs
          have := ih (g + 1) μ' (by omega) ha
          rw [← nI_1, hs] at this
          rw [cond_false, Int32.add_zero]
          exact this
        | true =>
          rw [hc, cond_true] at hs
          rw [cond_true]
          refine d_leavesAt (by rw [ha.vM]; exact r.wb) (by rw [ha.vM]; exact r.w9) (by omega) fun μ2 ha2 _ => ?_
          have := ih (g + 1) μ2 (by omega) (ha.tr ha2)
          rw [← nI_1, hs] at this
          rw [vI_mI, ha.vM]
          split
          · rename_i q
            rw [if_pos q] at this
            rw [Int32.add_zero]
            exact this
          · rename_i q
            rw [if_neg q] at this
            exact this
    have lx : ∀ (d g : Nat), g + d = 8 → Tot e_X9_stayed (fun v1 μ1 => s_X10_stayed [mO 9 55, mI (nI k)] μ1 (fun v2 μ2 => Gd v1 v2 μ2)) 17 [mO 8 0, mI (nI k), mI (f g), mI (nI g)] [] μ := by
      intro d
      induction d with
      | zero =>
        intro g hg
        have e : g = 8 := by omega
        subst e
        refine g_X9_stayed_17 ?_
        rw [if_pos (by decide)]
        refine g_X10_stayed (d_isAct ?_)
        rw [vI_mI, ite_b, r.n55, hb]
        have := lm 8 0 μ rfl (AgM.rf μ)
        rw [f0] at this
        exact this
      | succ d ih =>
        intro g hg
        have hs := fs g (by omega)
        refine g_X9_stayed_17 ?_
        rw [if_neg (show ¬ (8 : Int32) ≤ nI g from nI_ge (b := 8) (by omega) (by omega))]
        refine c_comes ?_
        rw [vI_mI, ite_b, r.v]
        cases hc : cmB (vM μ) (nI g) with
        | false =>
          rw [hc, cond_false] at hs
          have := ih (g + 1) (by omega)
          rw [← nI_1, hs] at this
          exact this
        | true =>
          rw [hc, cond_true] at hs
          rw [cond_true]
          refine c_behind r.wbX (by omega) ?_
          have := ih (g + 1) (by omega)
          rw [← nI_1, hs] at this
          rw [vI_mI, r.v]
          split
          · rename_i q
            rw [if_pos q] at this
            exact this
          · rename_i q
            rw [if_neg q] at this
            exact this
    have := lx 8 0 rfl
    rw [f0] at this
    exact this
theorem told_in {n o : Nat} {a : Int32} (hn : 1 ≤ n) (h6 : n ≤ 6) (ho : o ≤ 20) (h1 : 1 ≤ o) (hc : nI o ≤ a ∧ a ≤ nI (o - 1) + nI n) : ∃ k, k < n ∧ a = nI (o + k) := by
  obtain ⟨h2, h3⟩ := hc
  rw [nI_add] at h3
  have hp : 0 ≤ a := Int32.le_trans (nI_pos' (n := o) (by omega)) h2
  obtain ⟨t, ht, rfl⟩ := nI_btw (by omega) hp h3
  have h4 : o ≤ t := (nI_leI (by omega) (by omega)).mp h2
  exact ⟨t - o, by omega, by congr 1; omega⟩
theorem told_5 {o : Nat} {a : Int32} (ho : o ≤ 20) (hc : nI o ≤ a ∧ a ≤ nI (o + 5)) : ∃ k, k ≤ 5 ∧ a = nI (o + k) := by
  obtain ⟨h2, h3⟩ := hc
  have hp : 0 ≤ a := Int32.le_trans (nI_pos' (n := o) (by omega)) h2
  obtain ⟨t, ht, rfl⟩ := nI_btw (by omega) hp h3
  have h4 : o ≤ t := (nI_leI (by omega) (by omega)).mp h2
  exact ⟨t - o, by omega, by congr 1; omega⟩
theorem nI_sub0 (o k : Nat) : nI (o + k) - nI o = nI k := by
  rw [nI_sub (by omega)]
  congr 1
  omega
theorem isA {n k : Nat} (hn : 1 ≤ n) (h6 : n ≤ 6) (hk : k ≤ 5) : decide (0 ≤ nI k ∧ nI k ≤ nI n - 1) = decide (k < n) := by
  rw [show (1 : Int32) = nI 1 from rfl, nI_sub hn]
  apply decide_eq_decide.mpr
  rw [nI_leI (by omega) (by omega)]
  have : (0 : Int32) ≤ nI k := nI_pos' (by omega)
  constructor
  · intro h; omega
  · intro h; exact ⟨this, by omega⟩
theorem call_told {μ : Mm} (r : Rl μ) (a : Int32) : s_X9_told [mO 8 0, mI a] μ (fun v1 μ1 => s_X10_told [mO 9 55, mI a] μ1 (fun v2 μ2 => Gd v1 v2 μ2)) := by
  have h1 := r.n1
  have h6 := r.n6
  refine g_X9_told (c_within ?_)
  rw [vI_mI, ite_b, r.n3]
  by_cases p10 : (10 : Int32) ≤ a ∧ a ≤ 15
  · obtain ⟨k, hk, rfl⟩ := told_5 (o := 10) (by omega) p10
    have hm : ∀ v : MV, (k < nA (vM μ) → v = mI (μ 57 k)) → (¬ k < nA (vM μ) → v = mI (-2)) → s_X10_told [mO 9 55, mI (nI (10 + k))] μ (fun v2 μ2 => Gd v v2 μ2) := by
      intro v hv1 hv2
      refine g_X10_told (d_in ?_)
      rw [vI_mI, ite_b, decide_eq_true p10, cond_true]
      refine d_isAct ?_
      rw [vI_mI, ite_b, show nI (10 + k) - 10 = nI k from nI_sub0 10 k, r.n55, isA h1 h6 hk]
      cases hd : decide (k < nA (vM μ)) with
      | false => exact ⟨hv2 (of_decide_eq_false hd), r⟩
      | true =>
        rw [nI_clamp (by omega)]
        exact ⟨vi_nI (by omega) (by decide), hv1 (of_decide_eq_true hd), r⟩
    by_cases hk2 : k < nA (vM μ)
    · have e : decide ((10 : Int32) ≤ nI (10 + k) ∧ nI (10 + k) ≤ 9 + nI (nA (vM μ))) = true := decide_eq_true ⟨p10.1, by rw [show (9 : Int32) = nI 9 from rfl, nI_add]; exact nI_le (by omega) (by omega)⟩
      rw [e, cond_true, show nI (10 + k) - 10 = nI k from nI_sub0 10 k]
      refine c_at (by omega) (by decide) ?_
      exact hm _ (fun _ => by rw [vI_mI, r.e2 (by omega)]) (fun z => absurd hk2 z)
    · have e : decide ((10 : Int32) ≤ nI (10 + k) ∧ nI (10 + k) ≤ 9 + nI (nA (vM μ))) = false := decide_eq_false fun z => by
        have z2 := z.2
        rw [show (9 : Int32) = nI 9 from rfl, nI_add, nI_leI (by omega) (by omega)] at z2
        omega
      rw [e, cond_false]
      refine c_within ?_
      have e2 : decide ((20 : Int32) ≤ nI (10 + k) ∧ nI (10 + k) ≤ 19 + nI (nA (vM μ))) = false := decide_eq_false fun z => by
        have z1 := (nI_leI (a := 20) (b := 10 + k) (by omega) (by omega)).mp z.1
        omega
      rw [vI_mI, ite_b, e2, cond_false]
      have hm := hm (mI (-2)) (fun z => absurd z hk2) (fun _ => rfl)
      have : k = 0 ∨ k = 1 ∨ k = 2 ∨ k = 3 ∨ k = 4 ∨ k = 5 := by omega
      rcases this with rfl | rfl | rfl | rfl | rfl | rfl <;>
        (rw [if_neg (by decide), if_neg (by decide), if_neg (by decide), if_neg (by decide), if_neg (by decide), if_neg (by decide), if_neg (by decide), if_neg (by decide)]; exact hm)
  · have e : decide ((10 : Int32) ≤ a ∧ a ≤ 9 + nI (nA (vM μ))) = false := decide_eq_false fun z => by
      obtain ⟨k, hk, rfl⟩ := told_in (o := 10) h1 h6 (by omega) (by omega) z
      exact p10 ⟨z.1, nI_le (b := 15) (by omega) (by omega)⟩
    rw [e, cond_false]
    refine c_within ?_
    rw [vI_mI, ite_b, r.n3]
    by_cases p20 : (20 : Int32) ≤ a ∧ a ≤ 25
    · obtain ⟨k, hk, rfl⟩ := told_5 (o := 20) (by omega) p20
      have hm : ∀ v : MV, (k < nA (vM μ) → v = mI (μ 59 k)) → (¬ k < nA (vM μ) → v = mI (-2)) → s_X10_told [mO 9 55, mI (nI (20 + k))] μ (fun v2 μ2 => Gd v v2 μ2) := by
        intro v hv1 hv2
        refine g_X10_told (d_in ?_)
        rw [vI_mI, ite_b, decide_eq_false p10, cond_false]
        refine d_in ?_
        rw [vI_mI, ite_b, decide_eq_true p20, cond_true]
        refine d_isAct ?_
        rw [vI_mI, ite_b, show nI (20 + k) - 20 = nI k from nI_sub0 20 k, r.n55, isA h1 h6 hk]
        cases hd : decide (k < nA (vM μ)) with
        | false => exact ⟨hv2 (of_decide_eq_false hd), r⟩
        | true =>
          rw [nI_clamp (by omega)]
          exact ⟨vi_nI (by omega) (by decide), hv1 (of_decide_eq_true hd), r⟩
      by_cases hk2 : k < nA (vM μ)
      · have e : decide ((20 : Int32) ≤ nI (20 + k) ∧ nI (20 + k) ≤ 19 + nI (nA (vM μ))) = true := decide_eq_true ⟨p20.1, by rw [show (19 : Int32) = nI 19 from rfl, nI_add]; exact nI_le (by omega) (by omega)⟩
        rw [e, cond_true, show nI (20 + k) - 20 = nI k from nI_sub0 20 k]
        refine c_at (by omega) (by decide) ?_
        exact hm _ (fun _ => by rw [vI_mI, r.e3 (by omega)]) (fun z => absurd hk2 z)
      · have e : decide ((20 : Int32) ≤ nI (20 + k) ∧ nI (20 + k) ≤ 19 + nI (nA (vM μ))) = false := decide_eq_false fun z => by
          have z2 := z.2
          rw [show (19 : Int32) = nI 19 from rfl, nI_add, nI_leI (by omega) (by omega)] at z2
          omega
        rw [e, cond_false]
        have hm := hm (mI (-2)) (fun z => absurd z hk2) (fun _ => rfl)
        have : k = 0 ∨ k = 1 ∨ k = 2 ∨ k = 3 ∨ k = 4 ∨ k = 5 := by omega
        rcases this with rfl | rfl | rfl | rfl | rfl | rfl <;>
          (rw [if_neg (by decide), if_neg (by decide), if_neg (by decide), if_neg (by decide), if_neg (by decide), if_neg (by decide), if_neg (by decide), if_neg (by decide)]; exact hm)
    · have e : decide ((20 : Int32) ≤ a ∧ a ≤ 19 + nI (nA (vM μ))) = false := decide_eq_false fun z => by
        obtain ⟨k, hk, rfl⟩ := told_in (o := 20) h1 h6 (by omega) (by omega) z
        exact p20 ⟨z.1, nI_le (b := 25) (by omega) (by omega)⟩
      rw [e, cond_false]
      have hm : ∀ v : MV, v = (if a = 0 then mI (μ 55 13) else if a = 1 then mI (μ 55 0) else if a = 2 then mI (μ 55 1) else if a = 3 then mI (μ 55 2) else if a = 4 then mI (μ 55 3) else if a = 5 then mI (μ 55 4) else if a = 6 then mI (μ 55 5) else if a = 7 then mI (μ 55 11) else mI (-2)) → s_X10_told [mO 9 55, mI a] μ (fun v2 μ2 => Gd v v2 μ2) := by
        intro v hv
        refine g_X10_told (d_in ?_)
        rw [vI_mI, ite_b, decide_eq_false p10, cond_false]
        refine d_in ?_
        rw [vI_mI, ite_b, decide_eq_false p20, cond_false]
        split <;> rename_i q0
        · rw [if_pos q0] at hv; exact ⟨hv, r⟩
        rw [if_neg q0] at hv
        split <;> rename_i q1
        · rw [if_pos q1] at hv; exact ⟨hv, r⟩
        rw [if_neg q1] at hv
        split <;> rename_i q2
        · rw [if_pos q2] at hv; exact ⟨hv, r⟩
        rw [if_neg q2] at hv
        split <;> rename_i q3
        · rw [if_pos q3] at hv; exact ⟨hv, r⟩
        rw [if_neg q3] at hv
        split <;> rename_i q4
        · rw [if_pos q4] at hv; exact ⟨hv, r⟩
        rw [if_neg q4] at hv
        split <;> rename_i q5
        · rw [if_pos q5] at hv; exact ⟨hv, r⟩
        rw [if_neg q5] at hv
        split <;> rename_i q6
        · rw [if_pos q6] at hv; exact ⟨hv, r⟩
        rw [if_neg q6] at hv
        split <;> rename_i q7
        · rw [if_pos q7] at hv; exact ⟨hv, r⟩
        rw [if_neg q7] at hv
        exact ⟨hv, r⟩
      split <;> rename_i q0
      · exact hm _ (by rw [if_pos q0, r.2.1.1])
      split <;> rename_i q1
      · exact hm _ (by rw [if_neg q0, if_pos q1, r.n55])
      split <;> rename_i q2
      · exact hm _ (by rw [if_neg q0, if_neg q1, if_pos q2, r.s1])
      split <;> rename_i q3
      · exact hm _ (by rw [if_neg q0, if_neg q1, if_neg q2, if_pos q3, r.s2])
      split <;> rename_i q4
      · exact hm _ (by rw [if_neg q0, if_neg q1, if_neg q2, if_neg q3, if_pos q4, r.s3])
      split <;> rename_i q5
      · exact hm _ (by rw [if_neg q0, if_neg q1, if_neg q2, if_neg q3, if_neg q4, if_pos q5, r.s4])
      split <;> rename_i q6
      · exact hm _ (by rw [if_neg q0, if_neg q1, if_neg q2, if_neg q3, if_neg q4, if_neg q5, if_pos q6, r.s5])
      split <;> rename_i q7
      · exact hm _ (by rw [if_neg q0, if_neg q1, if_neg q2, if_neg q3, if_neg q4, if_neg q5, if_neg q6, if_pos q7, r.s6])
      · exact hm _ (by rw [if_neg q0, if_neg q1, if_neg q2, if_neg q3, if_neg q4, if_neg q5, if_neg q6, if_neg q7])
end
section
/-! ===== calls that change the state ===== -/
theorem mS_k {μ : Mm} {c k : Nat} {x : Int32} {k' : Nat} (h : k' ≠ k) : mS μ c k x c k' = μ c k' := mS_ne (fun e => h e.2)
def F0r (μ : Mm) : Prop := ∃ n, 1 ≤ n ∧ n ≤ 6 ∧ μ 3 0 = nI n ∧ μ 55 0 = nI n
def F1r (μ : Mm) : Prop := ∃ n, n < 256 ∧ μ 3 5 = nI n ∧ μ 55 1 = nI n
def F2r (μ : Mm) : Prop := ∃ n, n ≤ 30 ∧ μ 3 1 = nI n ∧ μ 55 2 = nI n
def F3r (μ : Mm) : Prop := ∃ n, n ≤ 9 ∧ μ 3 2 = nI n ∧ μ 55 3 = nI n
def F4r (μ : Mm) : Prop := ∃ n, n ≤ 1 ∧ μ 3 3 = nI n ∧ μ 55 4 = nI n
def F5r (μ : Mm) : Prop := ∃ n, n ≤ 30 ∧ μ 3 4 = nI n ∧ μ 55 5 = nI n
def F6r (μ : Mm) : Prop := ∃ n, n ≤ 6 ∧ μ 9 0 = nI n ∧ μ 55 11 = nI n
def G1r (μ : Mm) : Prop := ∀ i, i < 48 → μ 5 i = μ 56 i
def G2r (μ : Mm) : Prop := ∀ j, j < 6 → ∃ a, a < 6 ∧ μ 4 j = nI a ∧ μ 57 j = nI a
def G3r (μ : Mm) : Prop := ∀ j, j < 6 → μ 6 j = μ 59 j
def G4r (μ : Mm) : Prop := (∀ g, g < 8 → μ 8 g = μ 60 g) ∧ FrW (μ 60)
def G5r (μ : Mm) : Prop := ∀ i, i < 6 → μ 10 i = μ 61 (3 * i) ∧ μ 11 i = μ 61 (3 * i + 1) ∧ μ 12 i = μ 61 (3 * i + 2)
def Ppr (μ : Mm) : Prop := Pp (μ 1 1) (μ 2) (μ 55 13) (μ 62)
def Pmr (μ : Mm) : Prop := Pm (μ 55 0).toNatClampNeg (μ 7) (μ 58)
def Pir (μ : Mm) : Prop := Pi1 (μ 23 1) (vS μ 24) (μ 28) (μ 70) 0 (μ 71 0) ∧ Pi1 (μ 34 1) (vS μ 35) (μ 39) (μ 70) 100 (μ 71 1)
theorem FrW_tr {f : Nat → Int32} : FrW (tr 8 f) ↔ FrW f := by
  unfold FrW
  constructor
  · intro h
    refine ⟨fun g hg => ?_, fun g k hg hk => ?_, fun g hg => ?_⟩
    · have := h.1 g hg
      rw [tr_at hg] at this
      exact this
    · have := h.2.1 g k hg hk
      rw [tr_at hg, tr_at hk] at this
      exact this
    · have := h.2.2 g hg
      rw [tr_at hg] at this
      exact this
  · intro h
    refine ⟨fun g hg => ?_, fun g k hg hk => ?_, fun g hg => ?_⟩
    · rw [tr_at hg]; exact h.1 g hg
    · rw [tr_at hg, tr_at hk]; exact h.2.1 g k hg hk
    · rw [tr_at hg]; exact h.2.2 g hg
theorem Rl_mk {μ : Mm} (h0 : F0r μ) (h1 : F1r μ) (h2 : F2r μ) (h3 : F3r μ) (h4 : F4r μ) (h5 : F5r μ) (h6 : F6r μ) (g1 : G1r μ) (g2 : G2r μ) (g3 : G3r μ) (g4 : G4r μ) (g5 : G5r μ) (pp : Ppr μ) (pm : Pmr μ) (pi : Pir μ) : Rl μ := by
  obtain ⟨n0, a0, b0, c0, d0⟩ := h0
  obtain ⟨n1, a1, c1, d1⟩ := h1
  obtain ⟨n2, a2, c2, d2⟩ := h2
  obtain ⟨n3, a3, c3, d3⟩ := h3
  obtain ⟨n4, a4, c4, d4⟩ := h4
  obtain ⟨n5, a5, c5, d5⟩ := h5
  obtain ⟨n6, a6, c6, d6⟩ := h6
  have hn : nA (vM μ) = n0 := by
    show (μ 55 0).toNatClampNeg = n0
    rw [d0, nI_clamp (by omega)]
  refine ⟨⟨?_, ⟨⟨?_, fun j hj => ?_⟩, ⟨n3, a3, d3⟩, ⟨n2, a2, d2⟩, ⟨n5, a5, d5⟩, ?_, ⟨n1, a1, d1⟩, ⟨n6, a6, d6⟩, FrW_tr.mpr g4.2⟩⟩, pp, pm, pi.1, pi.2⟩
  · funext r i
    match r with
    | 0 =>
      match i with
      | 0 => exact c0.trans d0.symm
      | 1 => exact c1.trans d1.symm
      | 2 => exact c2.trans d2.symm
      | 3 => exact c3.trans d3.symm
      | 4 => exact c4.trans d4.symm
      | 5 => exact c5.trans d5.symm
      | 6 => exact c6.trans d6.symm
      | i + 7 => rfl
    | 1 => exact congrFun (tr_eq g1) i
    | 2 => exact congrFun (tr_eq (f := μ 4) (g := μ 57) fun j hj => by obtain ⟨a, _, e1, e2⟩ := g2 j hj; rw [e1, e2]) i
    | 3 => exact congrFun (tr_eq g3) i
    | 4 => exact congrFun (tr_eq g4.1) i
    | 5 => exact congrFun (tr_eq (f := μ 10) (g := fun i => μ 61 (3 * i)) fun j hj => (g5 j hj).1) i
    | 6 => exact congrFun (tr_eq (f := μ 11) (g := fun i => μ 61 (3 * i + 1)) fun j hj => (g5 j hj).2.1) i
    | 7 => exact congrFun (tr_eq (f := μ 12) (g := fun i => μ 61 (3 * i + 2)) fun j hj => (g5 j hj).2.2) i
    | r + 8 => rfl
  · rw [hn]
    exact ⟨a0, b0, d0⟩
  · obtain ⟨a, ha, -, e⟩ := g2 j hj
    have e1 : vM μ 2 j = nI a := (tr_at (f := μ 57) hj).trans e
    have e2 : oA (vM μ) j = a := by
      show (vM μ 2 j).toNatClampNeg = a
      rw [e1, nI_clamp (by omega)]
    rw [e2]
    exact ⟨ha, e1⟩
  · have : n4 = 0 ∨ n4 = 1 := by omega
    rcases this with e | e
    · left; show μ 55 4 = 0; rw [d4, e]; rfl
    · right; show μ 55 4 = 1; rw [d4, e]; rfl
theorem Rl.f0 {μ : Mm} (r : Rl μ) : F0r μ := ⟨nA (vM μ), r.n1, r.n6, r.n3, r.n55⟩
theorem Rl.f1 {μ : Mm} (r : Rl μ) : F1r μ := by
  obtain ⟨n, a, e⟩ := r.wf.2.2.2.2.2.1
  have e : μ 55 1 = nI n := e
  exact ⟨n, a, by rw [r.s1, e], e⟩
theorem Rl.f2 {μ : Mm} (r : Rl μ) : F2r μ := by
  obtain ⟨n, a, e⟩ := r.wf.2.2.1
  have e : μ 55 2 = nI n := e
  exact ⟨n, a, by rw [r.s2, e], e⟩
theorem Rl.f3 {μ : Mm} (r : Rl μ) : F3r μ := by
  obtain ⟨n, a, e⟩ := r.w9
  have e : μ 55 3 = nI n := e
  exact ⟨n, a, by rw [r.s3, e], e⟩
theorem Rl.f4 {μ : Mm} (r : Rl μ) : F4r μ := by
  have h : zb (μ 55 4) := r.wf.2.2.2.2.1
  rcases h with e | e
  · exact ⟨0, by omega, by rw [r.s4, e]; rfl, by rw [e]; rfl⟩
  · exact ⟨1, by omega, by rw [r.s4, e]; rfl, by rw [e]; rfl⟩
theorem Rl.f5 {μ : Mm} (r : Rl μ) : F5r μ := by
  obtain ⟨n, a, e⟩ := r.wf.2.2.2.1
  have e : μ 55 5 = nI n := e
  exact ⟨n, a, by rw [r.s5, e], e⟩
theorem Rl.f6 {μ : Mm} (r : Rl μ) : F6r μ := by
  obtain ⟨n, a, e⟩ := r.wf.2.2.2.2.2.2.1
  have e : μ 55 11 = nI n := e
  exact ⟨n, a, by rw [r.s6, e], e⟩
theorem Rl.g1 {μ : Mm} (r : Rl μ) : G1r μ := fun _ h => r.e1 h
theorem Rl.g2 {μ : Mm} (r : Rl μ) : G2r μ := fun j hj => by
  obtain ⟨h1, h2⟩ := r.wb.2 j hj
  have h3 : μ 57 j = nI (oA (vM μ) j) := (tr_at (f := μ 57) hj).symm.trans h2
  exact ⟨_, h1, by rw [r.e2 hj, h3], h3⟩
theorem Rl.g3 {μ : Mm} (r : Rl μ) : G3r μ := fun _ h => r.e3 h
theorem Rl.g4 {μ : Mm} (r : Rl μ) : G4r μ := ⟨fun _ h => r.e4 h, FrW_tr.mp r.wf.2.2.2.2.2.2.2⟩
theorem Rl.g5 {μ : Mm} (r : Rl μ) : G5r μ := fun _ h => ⟨r.e5 h, r.e6 h, r.e7 h⟩
theorem Rl.pp {μ : Mm} (r : Rl μ) : Ppr μ := r.2.1
theorem Rl.pm {μ : Mm} (r : Rl μ) : Pmr μ := r.2.2.1
theorem Rl.pi {μ : Mm} (r : Rl μ) : Pir μ := r.2.2.2
/-- cells that images need -/
theorem Pir.fr {μ μ' : Mm} (h : ∀ c, 23 ≤ c → c ≠ 55 → (c ≤ 44 ∨ 70 ≤ c) → μ' c = μ c) (r : Pir μ) : Pir μ' := by
  have e24 : vS μ' 24 = vS μ 24 := vS_congr fun d hd => h _ (by omega) (by omega) (by omega)
  have e35 : vS μ' 35 = vS μ 35 := vS_congr fun d hd => h _ (by omega) (by omega) (by omega)
  unfold Pir
  rw [e24, e35, h 23 (by omega) (by omega) (by omega), h 28 (by omega) (by omega) (by omega), h 34 (by omega) (by omega) (by omega), h 39 (by omega) (by omega) (by omega), h 70 (by omega) (by omega) (by omega), h 71 (by omega) (by omega) (by omega)]
  exact r
theorem call_wipe {μ : Mm} (r : Rl μ) : s_X9_wipe [mO 8 0] μ (fun v1 μ1 => s_X10_wipe [mO 9 55] μ1 (fun v2 μ2 => Gd v1 v2 μ2)) := by
  refine g_X9_wipe (g_X10_wipe ⟨?_, ?_⟩)
  · rw [mS_c (by decide), r.pp.1]
  · refine Rl_mk ?_ ?_ ?_ ?_ ?_ ?_ ?_ ?_ ?_ ?_ ?_ ?_ ?_ ?_ (r.pi.fr fun c h1 h2 h3 => by rw [mS_c h2, mS_c (by omega)])
    · unfold F0r; simp (disch := decide) only [mS_c, mS_k, mS_eq]; exact r.f0
    · unfold F1r; simp (disch := decide) only [mS_c, mS_k, mS_eq]; exact r.f1
    · unfold F2r; simp (disch := decide) only [mS_c, mS_k, mS_eq]; exact r.f2
    · unfold F3r; simp (disch := decide) only [mS_c, mS_k, mS_eq]; exact r.f3
    · unfold F4r; simp (disch := decide) only [mS_c, mS_k, mS_eq]; exact r.f4
    · unfold F5r; simp (disch := decide) only [mS_c, mS_k, mS_eq]; exact r.f5
    · unfold F6r; simp (disch := decide) only [mS_c, mS_k, mS_eq]; exact r.f6
    · unfold G1r; simp (disch := decide) only [mS_c, mS_k, mS_eq]; exact r.g1
    · unfold G2r; simp (disch := decide) only [mS_c, mS_k, mS_eq]; exact r.g2
    · unfold G3r; simp (disch := decide) only [mS_c, mS_k, mS_eq]; exact r.g3
    · unfold G4r; simp (disch := decide) only [mS_c, mS_k, mS_eq]; exact r.g4
    · unfold G5r; simp (disch := decide) only [mS_c, mS_k, mS_eq]; exact r.g5
    · unfold Ppr; simp (disch := decide) only [mS_c, mS_k, mS_eq]; exact ⟨rfl, ⟨0, by omega, rfl⟩, r.pp.2.2⟩
    · unfold Pmr; simp (disch := decide) only [mS_c, mS_k, mS_eq]; exact r.pm
end
section
/-! ===== calls that change the state, by small writes ===== -/
theorem call_forget {μ : Mm} (r : Rl μ) : s_X9_forget [mO 8 0] μ (fun v1 μ1 => s_X10_forget [mO 9 55] μ1 (fun v2 μ2 => Gd v1 v2 μ2)) := by
  refine g_X9_forget (g_X10_forget ⟨?_, ?_⟩)
  · rw [mS_c (by decide), r.s6]
  · skip
    refine Rl_mk ?_ ?_ ?_ ?_ ?_ ?_ ?_ ?_ ?_ ?_ ?_ ?_ ?_ ?_ (r.pi.fr fun c h1 h2 h3 => by simp (disch := omega) only [mS_c])
    · unfold F0r; simp (disch := decide) only [mS_c, mS_k, mS_eq]; exact r.f0
    · unfold F1r; simp (disch := decide) only [mS_c, mS_k, mS_eq]; exact r.f1
    · unfold F2r; simp (disch := decide) only [mS_c, mS_k, mS_eq]; exact r.f2
    · unfold F3r; simp (disch := decide) only [mS_c, mS_k, mS_eq]; exact r.f3
    · unfold F4r; simp (disch := decide) only [mS_c, mS_k, mS_eq]; exact r.f4
    · unfold F5r; simp (disch := decide) only [mS_c, mS_k, mS_eq]; exact r.f5
    · unfold F6r; simp (disch := decide) only [mS_c, mS_k, mS_eq]; exact ⟨0, by omega, rfl, rfl⟩
    · unfold G1r; simp (disch := decide) only [mS_c, mS_k, mS_eq]; exact r.g1
    · unfold G2r; simp (disch := decide) only [mS_c, mS_k, mS_eq]; exact r.g2
    · unfold G3r; simp (disch := decide) only [mS_c, mS_k, mS_eq]; exact r.g3
    · unfold G4r; simp (disch := decide) only [mS_c, mS_k, mS_eq]; exact r.g4
    · unfold G5r; simp (disch := decide) only [mS_c, mS_k, mS_eq]; exact r.g5
    · unfold Ppr; simp (disch := decide) only [mS_c, mS_k, mS_eq]; exact r.pp
    · unfold Pmr; simp (disch := decide) only [mS_c, mS_k, mS_eq]; exact r.pm
theorem call_say {μ : Mm} (r : Rl μ) (a : Int32) : s_X9_say [mO 8 0, mI a] μ (fun v1 μ1 => s_X10_say [mO 9 55, mI a] μ1 (fun v2 μ2 => Gd v1 v2 μ2)) := by
  obtain ⟨hp1, ⟨k, hk, hp2⟩, hp3⟩ := r.pp
  refine g_X9_say (c_within ?_)
  rw [vI_mI, ite_b]
  cases hc : decide (33 ≤ a ∧ a ≤ 126) with
  | false =>
    refine g_X10_say (d_in ?_)
    rw [vI_mI, ite_b, hc]
    exact ⟨rfl, r⟩
  | true =>
    refine g_X3_add ?_
    rw [hp1, hp2]
    by_cases h48 : k = 48
    · subst h48
      rw [if_neg (by decide)]
      refine ⟨zb0, ?_⟩
      rw [vI_mI, if_pos rfl]
      refine g_X10_say (d_in ?_)
      rw [vI_mI, ite_b, hc, cond_true, hp2, if_pos (show nI 48 = 48 from rfl)]
      exact ⟨rfl, r⟩
    · rw [if_pos (show nI k < 48 from nI_lt (b := 48) (by omega) (by omega))]
      refine c_put (by omega) (by decide) ⟨zb1, ?_⟩
      rw [vI_mI, if_neg i10]
      refine g_X10_say (d_in ?_)
      simp (disch := decide) only [mS_c, mS_k, mS_eq]
      rw [vI_mI, ite_b, hc, cond_true, hp2, if_neg (show ¬ nI k = 48 from fun z => h48 ((nI_eq (b := 48) (by omega) (by omega)).mp z)), hp1, hp2, nI_clamp (by omega)]
      refine ⟨vi_nI (by omega) (by decide), rfl, ?_⟩
      refine Rl_mk ?_ ?_ ?_ ?_ ?_ ?_ ?_ ?_ ?_ ?_ ?_ ?_ ?_ ?_ (r.pi.fr fun c h1 h2 h3 => by simp (disch := omega) only [mS_c])
      · unfold F0r; simp (disch := decide) only [mS_c, mS_k, mS_eq]; exact r.f0
      · unfold F1r; simp (disch := decide) only [mS_c, mS_k, mS_eq]; exact r.f1
      · unfold F2r; simp (disch := decide) only [mS_c, mS_k, mS_eq]; exact r.f2
      · unfold F3r; simp (disch := decide) only [mS_c, mS_k, mS_eq]; exact r.f3
      · unfold F4r; simp (disch := decide) only [mS_c, mS_k, mS_eq]; exact r.f4
      · unfold F5r; simp (disch := decide) only [mS_c, mS_k, mS_eq]; exact r.f5
      · unfold F6r; simp (disch := decide) only [mS_c, mS_k, mS_eq]; exact r.f6
      · unfold G1r; simp (disch := decide) only [mS_c, mS_k, mS_eq]; exact r.g1
      · unfold G2r; simp (disch := decide) only [mS_c, mS_k, mS_eq]; exact r.g2
      · unfold G3r; simp (disch := decide) only [mS_c, mS_k, mS_eq]; exact r.g3
      · unfold G4r; simp (disch := decide) only [mS_c, mS_k, mS_eq]; exact r.g4
      · unfold G5r; simp (disch := decide) only [mS_c, mS_k, mS_eq]; exact r.g5
      · unfold Ppr; simp (disch := decide) only [mS_c, mS_k, mS_eq]
        refine ⟨rfl, ⟨k + 1, by omega, nI_1 k⟩, fun i hi => ?_⟩
        by_cases e : i = k
        · subst e; simp only [mS_eq]
        · rw [mS_k e, mS_k e]; exact hp3 i hi
      · unfold Pmr; simp (disch := decide) only [mS_c, mS_k, mS_eq]; exact r.pm
theorem call_other {μ : Mm} (r : Rl μ) (a b : Int32) : s_X9_other [mO 8 0, mI a, mI b] μ (fun v1 μ1 => s_X10_other [mO 9 55, mI a, mI b] μ1 (fun v2 μ2 => Gd v1 v2 μ2)) := by
  refine g_X9_other (c_hasAct ?_)
  rw [vI_mI, ite_b, r.n3]
  cases hb : decide (0 ≤ a ∧ a ≤ nI (nA (vM μ)) - 1) with
  | false =>
    refine g_X10_other (d_isAct ?_)
    rw [vI_mI, ite_b, r.n55, hb]
    exact ⟨rfl, r⟩
  | true =>
    obtain ⟨k, hk, rfl⟩ := act_in r.n1 r.n6 hb
    have h6 := r.n6
    refine c_within ?_
    rw [vI_mI, ite_b]
    cases hc : decide (0 ≤ b ∧ b ≤ 25) with
    | false =>
      refine g_X10_other (d_isAct ?_)
      rw [vI_mI, ite_b, r.n55, hb, cond_true]
      refine d_in ?_
      rw [vI_mI, ite_b, hc]
      exact ⟨rfl, r⟩
    | true =>
      refine c_at (by omega) (by decide) (c_put (by omega) (by decide) ?_)
      refine g_X10_other (d_isAct ?_)
      simp (disch := decide) only [mS_c, mS_k, mS_eq]
      rw [vI_mI, ite_b, r.n55, hb, cond_true]
      refine d_in ?_
      rw [vI_mI, ite_b, hc, cond_true, nI_clamp (by omega), vI_mI]
      refine ⟨vi_nI (by omega) (by decide), vi_nI (by omega) (by decide), by rw [r.e3 (by omega), mS_c (c' := 59) (by decide)], ?_⟩
      refine Rl_mk ?_ ?_ ?_ ?_ ?_ ?_ ?_ ?_ ?_ ?_ ?_ ?_ ?_ ?_ (r.pi.fr fun c h1 h2 h3 => by simp (disch := omega) only [mS_c])
      · unfold F0r; simp (disch := decide) only [mS_c, mS_k, mS_eq]; exact r.f0
      · unfold F1r; simp (disch := decide) only [mS_c, mS_k, mS_eq]; exact r.f1
      · unfold F2r; simp (disch := decide) only [mS_c, mS_k, mS_eq]; exact r.f2
      · unfold F3r; simp (disch := decide) only [mS_c, mS_k, mS_eq]; exact r.f3
      · unfold F4r; simp (disch := decide) only [mS_c, mS_k, mS_eq]; exact r.f4
      · unfold F5r; simp (disch := decide) only [mS_c, mS_k, mS_eq]; exact r.f5
      · unfold F6r; simp (disch := decide) only [mS_c, mS_k, mS_eq]; exact r.f6
      · unfold G1r; simp (disch := decide) only [mS_c, mS_k, mS_eq]; exact r.g1
      · unfold G2r; simp (disch := decide) only [mS_c, mS_k, mS_eq]; exact r.g2
      · unfold G3r; simp (disch := decide) only [mS_c, mS_k, mS_eq]
        intro j hj
        by_cases e : j = k
        · subst e; simp only [mS_eq]
        · rw [mS_k e, mS_k e]; exact r.e3 hj
      · unfold G4r; simp (disch := decide) only [mS_c, mS_k, mS_eq]; exact r.g4
      · unfold G5r; simp (disch := decide) only [mS_c, mS_k, mS_eq]; exact r.g5
      · unfold Ppr; simp (disch := decide) only [mS_c, mS_k, mS_eq]; exact r.pp
      · unfold Pmr; simp (disch := decide) only [mS_c, mS_k, mS_eq]; exact r.pm
theorem two_w {μ : Mm} {c g h : Nat} {x y : Int32} : (mS (mS μ c g x) c h y) c = fun i => if i = h then y else if i = g then x else μ c i := by
  funext i
  unfold mS
  simp only [true_and]
theorem or_bit : ∀ m, m < 256 → ∀ h, h < 8 → (∃ m', m' < 256 ∧ nI m ||| ((1 : Int32) <<< (nI h &&& 31)) = nI m') ∧ ∀ k, k < 8 → bb (nI m ||| ((1 : Int32) <<< (nI h &&& 31))) k = (bb (nI m) k || decide (k = h)) := by
  have e : ∀ m, m < 256 → ∀ h, h < 8 → nI m ||| ((1 : Int32) <<< (nI h &&& 31)) = nI (m ||| 1 <<< h) ∧ m ||| 1 <<< h < 256 ∧ ∀ k, k < 8 → bb (nI m ||| ((1 : Int32) <<< (nI h &&& 31))) k = (bb (nI m) k || decide (k = h)) := by decide +kernel
  intro m hm h hh
  obtain ⟨e1, e2, e3⟩ := e m hm h hh
  exact ⟨⟨_, e2, e1⟩, e3⟩
theorem FrW_set {f : Nat → Int32} (w : FrW f) {g h : Nat} (hg : g < 8) (hh : h < 8) (hne : g ≠ h) : FrW (fun i => if i = h then (f h ||| ((1 : Int32) <<< (nI g &&& 31))) else if i = g then (f g ||| ((1 : Int32) <<< (nI h &&& 31))) else f i) := by
  obtain ⟨w1, w2, w3⟩ := w
  obtain ⟨mg, hmg, eg⟩ := w1 g hg
  obtain ⟨mh, hmh, eh⟩ := w1 h hh
  have og := or_bit mg hmg h hh
  have oh := or_bit mh hmh g hg
  have bits : ∀ i k, i < 8 → k < 8 → bb (if i = h then (f h ||| ((1 : Int32) <<< (nI g &&& 31))) else if i = g then (f g ||| ((1 : Int32) <<< (nI h &&& 31))) else f i) k = (bb (f i) k || (decide (i = h ∧ k = g) || decide (i = g ∧ k = h))) := by
    intro i k hi hk
    by_cases e1 : i = h
    · subst e1
      rw [if_pos rfl, eh, oh.2 k hk]
      have : ¬ i = g := fun z => hne z.symm
      simp [this]
    · rw [if_neg e1]
      by_cases e2 : i = g
      · subst e2
        rw [if_pos rfl, eg, og.2 k hk]
        simp [e1]
      · rw [if_neg e2]
        simp [e1, e2]
  refine ⟨fun i hi => ?_, fun i k hi hk => ?_, fun i hi => ?_⟩
  · show ∃ k, k < 256 ∧ (if i = h then _ else _) = nI k
    by_cases e1 : i = h
    · rw [if_pos e1, eh]; exact oh.1
    · rw [if_neg e1]
      by_cases e2 : i = g
      · rw [if_pos e2, eg]; exact og.1
      · rw [if_neg e2]; exact w1 i hi
  · rw [bits i k hi hk, bits k i hk hi, w2 i k hi hk]
    congr 1
    rw [Bool.or_comm]
    congr 1 <;> (apply decide_eq_decide.mpr; constructor <;> (intro z; exact ⟨z.2, z.1⟩))
  · rw [bits i i hi hi, w3 i hi]
    have h1 : ¬ (i = h ∧ i = g) := fun z => hne (z.2.symm.trans z.1)
    have h2 : ¬ (i = g ∧ i = h) := fun z => hne (z.1.symm.trans z.2)
    simp [h1, h2]
theorem c_befriend {μ : Mm} {K : MV → Mm → Prop} {g h : Nat} (hg : g < 8) (hK : K mU (mS μ 8 g (μ 8 g ||| ((1 : Int32) <<< (nI h &&& 31))))) : s_X8_befriend [mO 7 3, mI (nI g), mI (nI h)] μ K :=
  g_X8_befriend (c_at hg (by decide) (c_put hg (by decide) hK))
theorem call_friends {μ : Mm} (r : Rl μ) (a b : Int32) : s_X9_friends [mO 8 0, mI a, mI b] μ (fun v1 μ1 => s_X10_friends [mO 9 55, mI a, mI b] μ1 (fun v2 μ2 => Gd v1 v2 μ2)) := by
  refine g_X9_friends (c_within ?_)
  rw [vI_mI, ite_b]
  cases ha : decide (0 ≤ a ∧ a ≤ 7) with
  | false =>
    rw [cond_false, if_pos rfl]
    refine g_X10_friends (d_in ?_)
    rw [vI_mI, ite_b, ha]
    exact ⟨rfl, r⟩
  | true =>
    rw [cond_true]
    refine c_within ?_
    rw [vI_mI, ite_b]
    cases hb : decide (0 ≤ b ∧ b ≤ 7) with
    | false =>
      rw [cond_false, if_pos rfl]
      refine g_X10_friends (d_in ?_)
      rw [vI_mI, ite_b, ha, cond_true]
      refine d_in ?_
      rw [vI_mI, ite_b, hb]
      exact ⟨rfl, r⟩
    | true =>
      rw [cond_true, if_neg i10]
      by_cases hab : a = b
      · rw [if_pos hab]
        refine g_X10_friends (d_in ?_)
        rw [vI_mI, ite_b, ha, cond_true]
        refine d_in ?_
        rw [vI_mI, ite_b, hb, cond_true, if_pos hab]
        exact ⟨rfl, r⟩
      · rw [if_neg hab]
        obtain ⟨g, hg, rfl⟩ := nI_btw (n := 7) (by omega) (of_decide_eq_true ha).1 (of_decide_eq_true ha).2
        obtain ⟨h, hh, rfl⟩ := nI_btw (n := 7) (by omega) (of_decide_eq_true hb).1 (of_decide_eq_true hb).2
        have hne : g ≠ h := fun z => hab (by rw [z])
        refine c_befriend (by omega) (c_befriend (by omega) ?_)
        refine g_X10_friends (d_in ?_)
        rw [vI_mI, ite_b, ha, cond_true]
        refine d_in ?_
        rw [vI_mI, ite_b, hb, cond_true, if_neg hab, nI_clamp (by omega), nI_clamp (by omega)]
        refine ⟨vi_nI (by omega) (by decide), vi_nI (by omega) (by decide), vi_nI (by omega) (by decide), vi_nI (by omega) (by decide), rfl, ?_⟩
        rw [mS_k (k' := h) (fun z => hne z.symm)]
        simp (disch := decide) only [mS_c]
        rw [mS_k (k' := h) (fun z => hne z.symm)]
        refine Rl_mk ?_ ?_ ?_ ?_ ?_ ?_ ?_ ?_ ?_ ?_ ?_ ?_ ?_ ?_ (r.pi.fr fun c h1 h2 h3 => by simp (disch := omega) only [mS_c])
        · unfold F0r; simp (disch := decide) only [mS_c, mS_k, mS_eq]; exact r.f0
        · unfold F1r; simp (disch := decide) only [mS_c, mS_k, mS_eq]; exact r.f1
        · unfold F2r; simp (disch := decide) only [mS_c, mS_k, mS_eq]; exact r.f2
        · unfold F3r; simp (disch := decide) only [mS_c, mS_k, mS_eq]; exact r.f3
        · unfold F4r; simp (disch := decide) only [mS_c, mS_k, mS_eq]; exact r.f4
        · unfold F5r; simp (disch := decide) only [mS_c, mS_k, mS_eq]; exact r.f5
        · unfold F6r; simp (disch := decide) only [mS_c, mS_k, mS_eq]; exact r.f6
        · unfold G1r; simp (disch := decide) only [mS_c, mS_k, mS_eq]; exact r.g1
        · unfold G2r; simp (disch := decide) only [mS_c, mS_k, mS_eq]; exact r.g2
        · unfold G3r; simp (disch := decide) only [mS_c, mS_k, mS_eq]; exact r.g3
        · unfold G4r; simp (disch := decide) only [mS_c, mS_k, mS_eq]
          obtain ⟨q1, q2⟩ := r.g4
          have q3 := FrW_set q2 (g := g) (h := h) (by omega) (by omega) hne
          simp (disch := decide) only [two_w, mS_c]
          refine ⟨fun i hi => ?_, q3⟩
          rw [q1 g (by omega), q1 h (by omega), q1 i hi]
        · unfold G5r; simp (disch := decide) only [mS_c, mS_k, mS_eq]; exact r.g5
        · unfold Ppr; simp (disch := decide) only [mS_c, mS_k, mS_eq]; exact r.pp
        · unfold Pmr; simp (disch := decide) only [mS_c, mS_k, mS_eq]; exact r.pm
end
section
/-! ===== seen, leave, acts, set ===== -/
theorem lt3m (k : Nat) : (3 : Int32) * nI k = nI (3 * k) := by rw [show (3 : Int32) * nI k = nI 3 * nI k from rfl, nI_mul]
theorem c_add {μ : Mm} {K : MV → Mm → Prop} {k : Nat} {x y z : Int32} (hk : k < 6) (h : μ 9 0 = nI k) (hK : K (mI 1) (mS (mS (mS (mS μ 10 k x) 11 k y) 12 k z) 9 0 (nI k + 1))) : s_X7_add [mO 6 9, mI x, mI y, mI z] μ K := by
  refine g_X7_add ?_
  rw [h, if_pos (show nI k < 6 from nI_lt (b := 6) (by omega) (by omega))]
  refine c_put hk (by decide) ?_
  rw [mS_c (by decide), h]
  refine c_put hk (by decide) ?_
  rw [mS_c (by decide), mS_c (by decide), h]
  refine c_put hk (by decide) ⟨zb1, ?_⟩
  rw [mS_c (by decide), mS_c (by decide), mS_c (by decide), h]
  exact hK
theorem call_seen {μ : Mm} (r : Rl μ) (a b c : Int32) : s_X9_seen [mO 8 0, mI a, mI b, mI c] μ (fun v1 μ1 => s_X10_seen [mO 9 55, mI a, mI b, mI c] μ1 (fun v2 μ2 => Gd v1 v2 μ2)) := by
  refine g_X9_seen (c_comes ?_)
  rw [vI_mI, ite_b, r.v]
  cases hc : cmB (vM μ) a with
  | false =>
    refine g_X10_seen (d_comes ?_)
    rw [vI_mI, ite_b, hc]
    exact ⟨rfl, r⟩
  | true =>
    rw [cond_true]
    refine c_within ?_
    rw [vI_mI, ite_b, r.n3]
    cases hb : decide (0 ≤ b ∧ b ≤ nI (nA (vM μ))) with
    | false =>
      refine g_X10_seen (d_comes ?_)
      rw [vI_mI, ite_b, hc, cond_true]
      refine d_in ?_
      rw [vI_mI, ite_b, r.n55, hb]
      exact ⟨rfl, r⟩
    | true =>
      rw [cond_true]
      refine c_within ?_
      rw [vI_mI, ite_b]
      cases hd : decide (0 ≤ c ∧ c ≤ 30) with
      | false =>
        refine g_X10_seen (d_comes ?_)
        rw [vI_mI, ite_b, hc, cond_true]
        refine d_in ?_
        rw [vI_mI, ite_b, r.n55, hb, cond_true]
        refine d_in ?_
        rw [vI_mI, ite_b, hd]
        exact ⟨rfl, r⟩
      | true =>
        rw [cond_true]
        obtain ⟨k, hk, e9, e55⟩ := r.f6
        by_cases h6 : k = 6
        · subst h6
          refine g_X7_add ?_
          rw [e9, if_neg (by decide)]
          refine ⟨zb0, ?_⟩
          rw [vI_mI, if_pos rfl]
          refine g_X10_seen (d_comes ?_)
          rw [vI_mI, ite_b, hc, cond_true]
          refine d_in ?_
          rw [vI_mI, ite_b, r.n55, hb, cond_true]
          refine d_in ?_
          rw [vI_mI, ite_b, hd, cond_true, e55, if_pos (show nI 6 = 6 from rfl)]
          exact ⟨rfl, r⟩
        · refine c_add (k := k) (by omega) e9 ?_
          rw [vI_mI, if_neg i10]
          refine g_X10_seen (d_comes ?_)
          have ev : vM (mS (mS (mS (mS μ 10 k a) 11 k b) 12 k c) 9 0 (nI k + 1)) = vM μ := vM_congr (fun k _ => by simp (disch := decide) only [mS_c]) (by simp (disch := decide) only [mS_c]) (by simp (disch := decide) only [mS_c]) (by simp (disch := decide) only [mS_c]) (by simp (disch := decide) only [mS_c]) (by simp (disch := decide) only [mS_c]) (by simp (disch := decide) only [mS_c])
          rw [vI_mI, ite_b, ev, hc, cond_true]
          refine d_in ?_
          simp (disch := decide) only [mS_c, mS_k, mS_eq]
          rw [vI_mI, ite_b, r.n55, hb, cond_true]
          refine d_in ?_
          simp (disch := decide) only [mS_c, mS_k, mS_eq]
          rw [vI_mI, ite_b, hd, cond_true, e55, if_neg (show ¬ nI k = 6 from fun z => h6 ((nI_eq (b := 6) (by omega) (by omega)).mp z)), lt3m, show (1 : Int32) = nI 1 from rfl, show (2 : Int32) = nI 2 from rfl, nI_add, nI_add, nI_clamp (by omega), nI_clamp (by omega), nI_clamp (by omega)]
          refine ⟨vi_nI (by omega) (by decide), vi_nI (by omega) (by decide), vi_nI (by omega) (by decide), rfl, ?_⟩
          refine Rl_mk ?_ ?_ ?_ ?_ ?_ ?_ ?_ ?_ ?_ ?_ ?_ ?_ ?_ ?_ (r.pi.fr fun c h1 h2 h3 => by simp (disch := omega) only [mS_c])
          · unfold F0r; simp (disch := decide) only [mS_c, mS_k, mS_eq]; exact r.f0
          · unfold F1r; simp (disch := decide) only [mS_c, mS_k, mS_eq]; exact r.f1
          · unfold F2r; simp (disch := decide) only [mS_c, mS_k, mS_eq]; exact r.f2
          · unfold F3r; simp (disch := decide) only [mS_c, mS_k, mS_eq]; exact r.f3
          · unfold F4r; simp (disch := decide) only [mS_c, mS_k, mS_eq]; exact r.f4
          · unfold F5r; simp (disch := decide) only [mS_c, mS_k, mS_eq]; exact r.f5
          · unfold F6r; simp (disch := decide) only [mS_c, mS_k, mS_eq]; exact ⟨k + 1, by omega, nI_add k 1, nI_add k 1⟩
          · unfold G1r; simp (disch := decide) only [mS_c, mS_k, mS_eq]; exact r.g1
          · unfold G2r; simp (disch := decide) only [mS_c, mS_k, mS_eq]; exact r.g2
          · unfold G3r; simp (disch := decide) only [mS_c, mS_k, mS_eq]; exact r.g3
          · unfold G4r; simp (disch := decide) only [mS_c, mS_k, mS_eq]; exact r.g4
          · unfold G5r; intro i hi
            obtain ⟨q1, q2, q3⟩ := r.g5 i hi
            simp (disch := decide) only [mS_c, mS_k, mS_eq]
            by_cases e : i = k
            · subst e
              refine ⟨?_, ?_, ?_⟩
              · rw [mS_eq, mS_k (by omega), mS_k (by omega), mS_eq]
              · rw [mS_eq, mS_k (by omega), mS_eq]
              · rw [mS_eq, mS_eq]
            · refine ⟨?_, ?_, ?_⟩
              · rw [mS_k e, mS_k (by omega), mS_k (by omega), mS_k (by omega)]; simp (disch := decide) only [mS_c]; exact q1
              · rw [mS_k e, mS_k (by omega), mS_k (by omega), mS_k (by omega)]; simp (disch := decide) only [mS_c]; exact q2
              · rw [mS_k e, mS_k (by omega), mS_k (by omega), mS_k (by omega)]; simp (disch := decide) only [mS_c]; exact q3
          · unfold Ppr; simp (disch := decide) only [mS_c, mS_k, mS_eq]; exact r.pp
          · unfold Pmr; simp (disch := decide) only [mS_c, mS_k, mS_eq]; exact r.pm
def bitsI (x : Int32) : Int32 := sumN (fun k => (x >>> (nI k &&& 31)) &&& 1) 8
theorem d_bits {μ : Mm} {K : MV → Mm → Prop} {x : Int32} (h : K (mI (bitsI x)) μ) : s_X10_bits [mI x] μ K := by
  refine g_X10_bits ?_
  have lp : ∀ (d k : Nat), k + d = 8 → Tot e_X10_bits K 4 [mI x, mI (sumN (fun k => (x >>> (nI k &&& 31)) &&& 1) k), mI (nI k)] [] μ := by
    intro d
    induction d with
    | zero =>
      intro k hk
      have e : k = 8 := by omega
      subst e
      refine g_X10_bits_4 ?_
      rw [if_pos (by decide)]
      exact h
    | succ d ih =>
      intro k hk
      refine g_X10_bits_4 ?_
      rw [if_neg (show ¬ (8 : Int32) ≤ nI k from nI_ge (b := 8) (by omega) (by omega))]
      have := ih (k + 1) (by omega)
      rw [← nI_1] at this
      exact this
  exact lp 8 0 rfl
def bcE (l0 : Int32) : Int32 := ((((((((l0 - (((l0.toUInt32 >>> ((1 : Int32).toUInt32 &&& Int32.toUInt32 31)).toInt32) &&& 1431655765)) &&& 858993459) + ((((l0 - (((l0.toUInt32 >>> ((1 : Int32).toUInt32 &&& Int32.toUInt32 31)).toInt32) &&& 1431655765)).toUInt32 >>> ((2 : Int32).toUInt32 &&& Int32.toUInt32 31)).toInt32) &&& 858993459)) + (((((l0 - (((l0.toUInt32 >>> ((1 : Int32).toUInt32 &&& Int32.toUInt32 31)).toInt32) &&& 1431655765)) &&& 858993459) + ((((l0 - (((l0.toUInt32 >>> ((1 : Int32).toUInt32 &&& Int32.toUInt32 31)).toInt32) &&& 1431655765)).toUInt32 >>> ((2 : Int32).toUInt32 &&& Int32.toUInt32 31)).toInt32) &&& 858993459)).toUInt32 >>> ((4 : Int32).toUInt32 &&& Int32.toUInt32 31)).toInt32)) &&& 252645135) + (((((((l0 - (((l0.toUInt32 >>> ((1 : Int32).toUInt32 &&& Int32.toUInt32 31)).toInt32) &&& 1431655765)) &&& 858993459) + ((((l0 - (((l0.toUInt32 >>> ((1 : Int32).toUInt32 &&& Int32.toUInt32 31)).toInt32) &&& 1431655765)).toUInt32 >>> ((2 : Int32).toUInt32 &&& Int32.toUInt32 31)).toInt32) &&& 858993459)) + (((((l0 - (((l0.toUInt32 >>> ((1 : Int32).toUInt32 &&& Int32.toUInt32 31)).toInt32) &&& 1431655765)) &&& 858993459) + ((((l0 - (((l0.toUInt32 >>> ((1 : Int32).toUInt32 &&& Int32.toUInt32 31)).toInt32) &&& 1431655765)).toUInt32 >>> ((2 : Int32).toUInt32 &&& Int32.toUInt32 31)).toInt32) &&& 858993459)).toUInt32 >>> ((4 : Int32).toUInt32 &&& Int32.toUInt32 31)).toInt32)) &&& 252645135).toUInt32 >>> ((8 : Int32).toUInt32 &&& Int32.toUInt32 31)).toInt32)) + ((((((((l0 - (((l0.toUInt32 >>> ((1 : Int32).toUInt32 &&& Int32.toUInt32 31)).toInt32) &&& 1431655765)) &&& 858993459) + ((((l0 - (((l0.toUInt32 >>> ((1 : Int32).toUInt32 &&& Int32.toUInt32 31)).toInt32) &&& 1431655765)).toUInt32 >>> ((2 : Int32).toUInt32 &&& Int32.toUInt32 31)).toInt32) &&& 858993459)) + (((((l0 - (((l0.toUInt32 >>> ((1 : Int32).toUInt32 &&& Int32.toUInt32 31)).toInt32) &&& 1431655765)) &&& 858993459) + ((((l0 - (((l0.toUInt32 >>> ((1 : Int32).toUInt32 &&& Int32.toUInt32 31)).toInt32) &&& 1431655765)).toUInt32 >>> ((2 : Int32).toUInt32 &&& Int32.toUInt32 31)).toInt32) &&& 858993459)).toUInt32 >>> ((4 : Int32).toUInt32 &&& Int32.toUInt32 31)).toInt32)) &&& 252645135) + (((((((l0 - (((l0.toUInt32 >>> ((1 : Int32).toUInt32 &&& Int32.toUInt32 31)).toInt32) &&& 1431655765)) &&& 858993459) + ((((l0 - (((l0.toUInt32 >>> ((1 : Int32).toUInt32 &&& Int32.toUInt32 31)).toInt32) &&& 1431655765)).toUInt32 >>> ((2 : Int32).toUInt32 &&& Int32.toUInt32 31)).toInt32) &&& 858993459)) + (((((l0 - (((l0.toUInt32 >>> ((1 : Int32).toUInt32 &&& Int32.toUInt32 31)).toInt32) &&& 1431655765)) &&& 858993459) + ((((l0 - (((l0.toUInt32 >>> ((1 : Int32).toUInt32 &&& Int32.toUInt32 31)).toInt32) &&& 1431655765)).toUInt32 >>> ((2 : Int32).toUInt32 &&& Int32.toUInt32 31)).toInt32) &&& 858993459)).toUInt32 >>> ((4 : Int32).toUInt32 &&& Int32.toUInt32 31)).toInt32)) &&& 252645135).toUInt32 >>> ((8 : Int32).toUInt32 &&& Int32.toUInt32 31)).toInt32)).toUInt32 >>> ((16 : Int32).toUInt32 &&& Int32.toUInt32 31)).toInt32)) &&& 63)
theorem bc_ok : ∀ m, m < 256 → bcE (nI m) = bitsI (nI m) := by decide +kernel
theorem c_bitCount {μ : Mm} {K : MV → Mm → Prop} {m : Nat} (hm : m < 256) (h : K (mI (bitsI (nI m))) μ) : s_J6_bitCount [mI (nI m)] μ K := by
  refine g_J6_bitCount ?_
  show K (mI (bcE (nI m))) μ
  rw [bc_ok m hm]
  exact h
theorem and_bit : ∀ m, m < 256 → ∀ h, h < 8 → ∃ m', m' < 256 ∧ nI m &&& (((1 : Int32) <<< (nI h &&& 31)) ^^^ (-1 : Int32)) = nI m' := by
  have e : ∀ m, m < 256 → ∀ h, h < 8 → nI m &&& (((1 : Int32) <<< (nI h &&& 31)) ^^^ (-1 : Int32)) = nI (m - (m &&& 1 <<< h)) := by decide +kernel
  exact fun m hm h hh => ⟨m - (m &&& 1 <<< h), by omega, e m hm h hh⟩
theorem call_leave {μ : Mm} (r : Rl μ) (a : Int32) : s_X9_leave [mO 8 0, mI a] μ (fun v1 μ1 => s_X10_leave [mO 9 55, mI a] μ1 (fun v2 μ2 => Gd v1 v2 μ2)) := by
  refine g_X9_leave (c_comes ?_)
  rw [vI_mI, ite_b, r.v]
  cases hc : cmB (vM μ) a with
  | false =>
    refine g_X10_leave (d_comes ?_)
    rw [vI_mI, ite_b, hc]
    exact ⟨rfl, r⟩
  | true =>
    obtain ⟨g, hg, rfl⟩ := gst_in hc
    obtain ⟨m, hm, e3, e55⟩ := r.f1
    obtain ⟨m', hm', em⟩ := and_bit m hm g hg
    rw [cond_true, mS_eq, e3, em]
    refine c_bitCount hm' ?_
    refine g_X10_leave (d_comes ?_)
    have ev : vM (mS μ 3 5 (nI m')) = vM μ := vM_congr (fun k _ => by simp (disch := decide) only [mS_c]) (by simp (disch := decide) only [mS_c]) (by simp (disch := decide) only [mS_c]) (by simp (disch := decide) only [mS_c]) (by simp (disch := decide) only [mS_c]) (by simp (disch := decide) only [mS_c]) (by simp (disch := decide) only [mS_c])
    rw [vI_mI, ite_b, ev, hc, cond_true, mS_eq, mS_c (by decide), e55, em]
    refine d_bits ⟨rfl, ?_⟩
    refine Rl_mk ?_ ?_ ?_ ?_ ?_ ?_ ?_ ?_ ?_ ?_ ?_ ?_ ?_ ?_ (r.pi.fr fun c h1 h2 h3 => by simp (disch := omega) only [mS_c])
    · unfold F0r; simp (disch := decide) only [mS_c, mS_k, mS_eq]; exact r.f0
    · unfold F1r; simp (disch := decide) only [mS_c, mS_k, mS_eq]; exact ⟨m', hm', rfl, rfl⟩
    · unfold F2r; simp (disch := decide) only [mS_c, mS_k, mS_eq]; exact r.f2
    · unfold F3r; simp (disch := decide) only [mS_c, mS_k, mS_eq]; exact r.f3
    · unfold F4r; simp (disch := decide) only [mS_c, mS_k, mS_eq]; exact r.f4
    · unfold F5r; simp (disch := decide) only [mS_c, mS_k, mS_eq]; exact r.f5
    · unfold F6r; simp (disch := decide) only [mS_c, mS_k, mS_eq]; exact r.f6
    · unfold G1r; simp (disch := decide) only [mS_c, mS_k, mS_eq]; exact r.g1
    · unfold G2r; simp (disch := decide) only [mS_c, mS_k, mS_eq]; exact r.g2
    · unfold G3r; simp (disch := decide) only [mS_c, mS_k, mS_eq]; exact r.g3
    · unfold G4r; simp (disch := decide) only [mS_c, mS_k, mS_eq]; exact r.g4
    · unfold G5r; simp (disch := decide) only [mS_c, mS_k, mS_eq]; exact r.g5
    · unfold Ppr; simp (disch := decide) only [mS_c, mS_k, mS_eq]; exact r.pp
    · unfold Pmr; simp (disch := decide) only [mS_c, mS_k, mS_eq]; exact r.pm
end
section
/-! ===== the pad: faults, guests, orders ===== -/
/-- a row laid anew -/
def mW (μ : Mm) (c : Nat) (f : Nat → Int32) : Mm := fun c' k => if c' = c then f k else μ c' k
theorem mW_eq {μ : Mm} {c : Nat} {f : Nat → Int32} : mW μ c f c = f := by funext k; unfold mW; rw [if_pos rfl]
theorem mW_c {μ : Mm} {c : Nat} {f : Nat → Int32} {c' : Nat} (h : c' ≠ c) : mW μ c f c' = μ c' := by funext k; unfold mW; rw [if_neg h]
theorem mW_id {μ : Mm} {c : Nat} {f : Nat → Int32} (h : f = μ c) : mW μ c f = μ := by
  funext c' k
  unfold mW
  split
  · rename_i e; rw [e, h]
  · rfl
theorem mW_st {μ : Mm} {c i : Nat} {f f' : Nat → Int32} {x : Int32} (h1 : f' i = x) (h2 : ∀ k, k ≠ i → f' k = f k) : mS (mW μ c f) c i x = mW μ c f' := by
  funext c' k
  unfold mS mW
  by_cases e : c' = c
  · rw [if_pos e]
    by_cases e2 : k = i
    · rw [if_pos ⟨e, e2⟩, if_pos e, e2, h1]
    · rw [if_neg (fun z => e2 z.2), if_pos e, h2 k e2]
  · rw [if_neg (fun z => e z.1), if_neg e, if_neg e]
def tw (x : Int32) : Bool := decide ((97 : Int32) ≤ x ∧ x ≤ 122) || decide ((65 : Int32) ≤ x ∧ x ≤ 74)
def gfl (p : Nat → Int32) (n c : Nat) : Nat → Nat → Int32
  | 0, _ => if n ≤ c then -6 else nI c
  | d + 1, i => if n ≤ i then nI i else bif tw (p i) then gfl p n c d (i + 1) else nI i
theorem gfl_or {p : Nat → Int32} {n c : Nat} (hc : c ≤ 48) : ∀ (d i : Nat), i + d = c → gfl p n c d i = -6 ∨ ∃ k, k ≤ 48 ∧ gfl p n c d i = nI k
  | 0, i, h => by
    unfold gfl
    split
    · exact Or.inl rfl
    · exact Or.inr ⟨c, hc, rfl⟩
  | d + 1, i, h => by
    unfold gfl
    split
    · exact Or.inr ⟨i, by omega, rfl⟩
    · cases tw (p i) with
      | true => exact gfl_or hc d (i + 1) (by omega)
      | false => exact Or.inr ⟨i, by omega, rfl⟩
def oky (n : Nat) (x : Int32) : Bool := decide (0 ≤ x ∧ x ≤ nI n - 1)
def ofl (p : Nat → Int32) (n c : Nat) : Nat → Nat → Int32 → Int32
  | 0, _, _ => if n ≤ c then -6 else nI c
  | d + 1, i, m => bif oky n (p i - 48) then (if (m >>> ((p i - 48) &&& 31)) &&& 1 = 1 then nI i else ofl p n c d (i + 1) (m ||| ((1 : Int32) <<< ((p i - 48) &&& 31)))) else nI i
theorem ofl_or {p : Nat → Int32} {n c : Nat} (hc : c ≤ 48) : ∀ (d i : Nat) (m : Int32), i + d = c → (ofl p n c d i m = -6 ∧ n ≤ c ∧ ∀ j, i ≤ j → j < c → oky n (p j - 48) = true) ∨ ∃ k, k ≤ 48 ∧ ofl p n c d i m = nI k
  | 0, i, m, h => by
    unfold ofl
    split
    · exact Or.inl ⟨rfl, by assumption, fun j h1 h2 => by omega⟩
    · exact Or.inr ⟨c, hc, rfl⟩
  | d + 1, i, m, h => by
    unfold ofl
    cases ho : oky n (p i - 48) with
    | false => exact Or.inr ⟨i, by omega, rfl⟩
    | true =>
      rw [cond_true]
      split
      · exact Or.inr ⟨i, by omega, rfl⟩
      · rcases ofl_or hc d (i + 1) (m ||| ((1 : Int32) <<< ((p i - 48) &&& 31))) (by omega) with ⟨h1, h2, h3⟩ | h1
        · refine Or.inl ⟨h1, h2, fun j h4 h5 => ?_⟩
          by_cases e : j = i
          · rw [e]; exact ho
          · exact h3 j (by omega) h5
        · exact Or.inr h1
theorem neg6_nI {k : Nat} (h : k ≤ 48) : ¬ nI k = -6 := by
  have : ∀ k, k ≤ 48 → ¬ nI k = -6 := by decide
  exact this k h
section FLT
variable {μ : Mm} {K : MV → Mm → Prop} {n c : Nat} {p : Nat → Int32}
theorem c_tellsWorth {x : Int32} (h : K (mI (bI (tw x))) μ) : s_X3_tellsWorth [mI x] μ K := by
  refine g_X3_tellsWorth (c_within ?_)
  rw [vI_mI, ite_b]
  have e : tw x = (decide ((97 : Int32) ≤ x ∧ x ≤ 122) || decide ((65 : Int32) ≤ x ∧ x ≤ 74)) := rfl
  cases h1 : decide ((97 : Int32) ≤ x ∧ x ≤ 122) with
  | true =>
    rw [h1, Bool.true_or] at e
    rw [e] at h
    exact ⟨zb1, h⟩
  | false =>
    rw [h1, Bool.false_or] at e
    rw [cond_false]
    refine c_within ?_
    rw [vI_mI, ite_b, ← e]
    cases h2 : tw x with
    | true => rw [h2] at h; exact ⟨zb1, h⟩
    | false => rw [h2] at h; exact ⟨zb0, h⟩
theorem c_guestFault (hn : n ≤ 6) (hc : c ≤ 48) (e1 : μ 1 1 = nI c) (ep : ∀ i, i < 48 → μ 2 i = p i) (h : K (mI (gfl p n c c 0)) μ) : s_X3_guestFault [mO 3 1, mI (nI n)] μ K := by
  refine g_X3_guestFault ?_
  have lp : ∀ (d i : Nat), i + d = c → (K (mI (gfl p n c d i)) μ) → Tot e_X3_guestFault K 2 [mO 3 1, mI (nI n), mI (nI i)] [] μ := by
    intro d
    induction d with
    | zero =>
      intro i hi hK
      have e : i = c := by omega
      subst e
      refine g_X3_guestFault_2 ?_
      rw [e1, if_pos (nI_le (Nat.le_refl _) (by omega))]
      unfold gfl at hK
      split
      · rename_i q
        rw [if_pos ((nI_leI (by omega) (by omega)).mp q)] at hK
        exact hK
      · rename_i q
        rw [if_neg (fun z => q ((nI_leI (by omega) (by omega)).mpr z))] at hK
        exact hK
    | succ d ih =>
      intro i hi hK
      refine g_X3_guestFault_2 ?_
      unfold gfl at hK
      rw [e1, if_neg (nI_ge (by omega) (by omega))]
      split
      · rename_i q
        rw [if_pos ((nI_leI (by omega) (by omega)).mp q)] at hK
        exact hK
      · rename_i q
        rw [if_neg (fun z => q ((nI_leI (by omega) (by omega)).mpr z))] at hK
        refine g_X3_sign (c_at (by omega) (by decide) ?_)
        refine c_tellsWorth ?_
        rw [vI_mI, vI_mI, vI_mI, ep i (by omega), ite_b]
        cases ht : tw (p i) with
        | true =>
          rw [ht, cond_true] at hK
          have := ih (i + 1) (by omega) hK
          rw [← nI_1] at this
          exact this
        | false =>
          rw [ht, cond_false] at hK
          exact hK
  exact lp c 0 (by omega) h
theorem d_guestFault (hn : n ≤ 6) (hc : c ≤ 48) (e1 : μ 55 13 = nI c) (e0 : μ 55 0 = nI n) (h : K (mI (gfl (μ 62) n c c 0)) μ) : s_X10_guestFault [mO 9 55] μ K := by
  refine g_X10_guestFault ?_
  have lp : ∀ (d i : Nat), i + d = c → i ≤ n → (K (mI (gfl (μ 62) n c d i)) μ) → Tot e_X10_guestFault K 2 [mO 9 55, mI (nI i)] [] μ := by
    intro d
    induction d with
    | zero =>
      intro i hi hin hK
      have e : i = c := by omega
      subst e
      refine g_X10_guestFault_2 ?_
      rw [e1, e0, if_pos (nI_le (Nat.le_refl _) (by omega))]
      unfold gfl at hK
      split
      · rename_i q
        rw [if_pos ((nI_leI (by omega) (by omega)).mp q)] at hK
        exact hK
      · rename_i q
        rw [if_neg (fun z => q ((nI_leI (by omega) (by omega)).mpr z))] at hK
        exact hK
    | succ d ih =>
      intro i hi hin hK
      refine g_X10_guestFault_2 ?_
      unfold gfl at hK
      rw [e1, e0, if_neg (nI_ge (by omega) (by omega))]
      split
      · rename_i q
        rw [if_pos (Nat.le_of_eq ((nI_eq (by omega) (by omega)).mp q).symm)] at hK
        exact hK
      · rename_i q
        have hne : ¬ n ≤ i := fun z => q (by rw [show i = n by omega])
        rw [if_neg hne] at hK
        refine ⟨vi_nI (by omega) (by decide), d_in ?_⟩
        rw [vI_mI, ite_b, nI_clamp (by omega)]
        have e : tw (μ 62 i) = (decide ((97 : Int32) ≤ μ 62 i ∧ μ 62 i ≤ 122) || decide ((65 : Int32) ≤ μ 62 i ∧ μ 62 i ≤ 74)) := rfl
        have nx : tw (μ 62 i) = true → Tot e_X10_guestFault K 2 [mO 9 55, mI (nI i + 1)] [] μ := fun ht => by
          rw [ht, cond_true] at hK
          have := ih (i + 1) (by omega) (by omega) hK
          rw [← nI_1] at this
          exact this
        cases h1 : decide ((97 : Int32) ≤ μ 62 i ∧ μ 62 i ≤ 122) with
        | true =>
          rw [h1, Bool.true_or] at e
          exact nx e
        | false =>
          rw [h1, Bool.false_or] at e
          rw [cond_false]
          refine ⟨vi_nI (by omega) (by decide), d_in ?_⟩
          rw [vI_mI, ite_b, ← e]
          cases h2 : tw (μ 62 i) with
          | true => exact nx h2
          | false =>
            rw [h2, cond_false] at hK
            exact hK
  exact lp c 0 (by omega) (by omega) h
theorem c_orderFault (hn : n ≤ 6) (hc : c ≤ 48) (e1 : μ 1 1 = nI c) (ep : ∀ i, i < 48 → μ 2 i = p i) (h : K (mI (ofl p n c c 0 0)) μ) : s_X3_orderFault [mO 3 1, mI (nI n)] μ K := by
  refine g_X3_orderFault ?_
  have lp : ∀ (d i : Nat) (m : Int32) (z : MV), i + d = c → (K (mI (ofl p n c d i m)) μ) → Tot e_X3_orderFault K 4 [mO 3 1, mI (nI n), mI m, mI (nI i), z] [] μ := by
    intro d
    induction d with
    | zero =>
      intro i m z hi hK
      have e : i = c := by omega
      subst e
      refine g_X3_orderFault_4 ?_
      rw [e1, if_pos (nI_le (Nat.le_refl _) (by omega))]
      unfold ofl at hK
      split
      · rename_i q
        rw [if_pos ((nI_leI (by omega) (by omega)).mp q)] at hK
        exact hK
      · rename_i q
        rw [if_neg (fun z => q ((nI_leI (by omega) (by omega)).mpr z))] at hK
        exact hK
    | succ d ih =>
      intro i m z hi hK
      refine g_X3_orderFault_4 ?_
      unfold ofl at hK
      rw [e1, if_neg (nI_ge (by omega) (by omega))]
      refine g_X3_sign (c_at (by omega) (by decide) (g_X3_actTold (c_within ?_)))
      rw [vI_mI, vI_mI, vI_mI, vI_mI, ep i (by omega), ite_b]
      have eo : decide (0 ≤ p i - 48 ∧ p i - 48 ≤ nI n - 1) = oky n (p i - 48) := rfl
      rw [eo]
      cases ho : oky n (p i - 48) with
      | false =>
        rw [ho, cond_false] at hK
        exact hK
      | true =>
        rw [ho, cond_true] at hK
        rw [cond_true]
        split
        · rename_i q
          rw [if_neg (by rw [q]; decide)] at hK
          have := ih (i + 1) _ (mI (p i - 48)) (by omega) hK
          rw [← nI_1] at this
          exact this
        · rename_i q
          rw [if_pos (and1_ne0 q)] at hK
          exact hK
  exact lp c 0 0 mU (by omega) h
theorem d_orderFault (hn : n ≤ 6) (hc : c ≤ 48) (e1 : μ 55 13 = nI c) (e0 : μ 55 0 = nI n) (h : K (mI (ofl (μ 62) n c c 0 0)) μ) : s_X10_orderFault [mO 9 55] μ K := by
  refine g_X10_orderFault ?_
  have lp : ∀ (d i : Nat) (m : Int32) (z : MV), i + d = c → (K (mI (ofl (μ 62) n c d i m)) μ) → Tot e_X10_orderFault K 4 [mO 9 55, mI m, mI (nI i), z] [] μ := by
    intro d
    induction d with
    | zero =>
      intro i m z hi hK
      have e : i = c := by omega
      subst e
      refine g_X10_orderFault_4 ?_
      rw [e1, e0, if_pos (nI_le (Nat.le_refl _) (by omega))]
      unfold ofl at hK
      split
      · rename_i q
        rw [if_pos ((nI_leI (by omega) (by omega)).mp q)] at hK
        exact hK
      · rename_i q
        rw [if_neg (fun z => q ((nI_leI (by omega) (by omega)).mpr z))] at hK
        exact hK
    | succ d ih =>
      intro i m z hi hK
      refine g_X10_orderFault_4 ?_
      unfold ofl at hK
      rw [e1, if_neg (nI_ge (by omega) (by omega)), nI_clamp (by omega)]
      refine ⟨vi_nI (by omega) (by decide), d_isAct ?_⟩
      rw [vI_mI, ite_b, e0]
      have eo : decide (0 ≤ μ 62 i - 48 ∧ μ 62 i - 48 ≤ nI n - 1) = oky n (μ 62 i - 48) := rfl
      rw [eo]
      cases ho : oky n (μ 62 i - 48) with
      | false =>
        rw [ho, cond_false] at hK
        exact hK
      | true =>
        rw [ho, cond_true] at hK
        rw [cond_true]
        refine d_has ?_
        rw [vI_mI, ite_b]
        cases hd : decide ((m >>> ((μ 62 i - 48) &&& 31)) &&& 1 = 1) with
        | false =>
          rw [if_neg (of_decide_eq_false hd)] at hK
          have := ih (i + 1) _ (mI (μ 62 i - 48)) (by omega) hK
          rw [← nI_1] at this
          exact this
        | true =>
          rw [if_pos (of_decide_eq_true hd)] at hK
          exact hK
  exact lp c 0 0 mU (by omega) h
end FLT
theorem call_fault {μ : Mm} (r : Rl μ) (a : Int32) : s_X9_fault [mO 8 0, mI a] μ (fun v1 μ1 => s_X10_fault [mO 9 55, mI a] μ1 (fun v2 μ2 => Gd v1 v2 μ2)) := by
  obtain ⟨hp1, ⟨c, hc, hp2⟩, hp3⟩ := r.pp
  have h6 := r.n6
  refine g_X9_fault (c_within ?_)
  rw [vI_mI, ite_b, r.n3]
  cases hd : decide (0 ≤ a ∧ a ≤ 1) with
  | false =>
    have hd := of_decide_eq_false hd
    refine g_X10_fault ?_
    rw [if_neg (fun z => hd (by rw [z]; decide)), if_neg (fun z => hd (by rw [z]; decide))]
    exact ⟨rfl, r⟩
  | true =>
    have hd := of_decide_eq_true hd
    obtain ⟨k, hk, rfl⟩ := nI_btw (n := 1) (by omega) hd.1 hd.2
    have : k = 0 ∨ k = 1 := by omega
    rcases this with rfl | rfl
    · rw [cond_true, if_pos (by decide)]
      refine c_guestFault h6 hc (hp1.trans hp2) hp3 ?_
      refine g_X10_fault ?_
      rw [if_pos (by decide)]
      exact d_guestFault h6 hc hp2 r.n55 ⟨rfl, r⟩
    · rw [cond_true, if_neg (by decide)]
      refine c_orderFault h6 hc (hp1.trans hp2) hp3 ?_
      refine g_X10_fault ?_
      rw [if_neg (by decide), if_pos (by decide)]
      exact d_orderFault h6 hc hp2 r.n55 ⟨rfl, r⟩
end
section
/-! ===== guest, play, set, acts ===== -/
theorem mW_mS {μ : Mm} {c c' i : Nat} {f : Nat → Int32} {x : Int32} (h : c ≠ c') : mS (mW μ c f) c' i x = mW (mS μ c' i x) c f := by
  funext a b
  unfold mS mW
  by_cases e : a = c
  · rw [if_neg (fun z => h (e.symm.trans z.1)), if_pos e, if_pos e]
  · rw [if_neg e, if_neg e]
def wt (x : Int32) : Int32 := if x < 97 then 64 - x else x - 97
theorem c_worthTold {μ : Mm} {K : MV → Mm → Prop} {x : Int32} (h : K (mI (wt x)) μ) : s_X3_worthTold [mI x] μ K := by
  refine g_X3_worthTold ?_
  unfold wt at h
  split
  · rename_i q; rw [if_pos q] at h; exact h
  · rename_i q; rw [if_neg q] at h; exact h
def Fw (p f : Nat → Int32) (g i : Nat) : Nat → Int32 := fun k => if 6 * g ≤ k ∧ k < 6 * g + i then wt (p (k - 6 * g)) else f k
theorem Fw_0 {p f : Nat → Int32} {g : Nat} : Fw p f g 0 = f := by
  funext k
  unfold Fw
  rw [if_neg (by omega)]
theorem Fw_at {p f : Nat → Int32} {g i : Nat} : Fw p f g (i + 1) (6 * g + i) = wt (p i) := by
  unfold Fw
  rw [if_pos (by omega), show 6 * g + i - 6 * g = i by omega]
theorem Fw_ne {p f : Nat → Int32} {g i k : Nat} (h : k ≠ 6 * g + i) : Fw p f g (i + 1) k = Fw p f g i k := by
  unfold Fw
  by_cases e : 6 * g ≤ k ∧ k < 6 * g + i
  · rw [if_pos e, if_pos (by omega)]
  · rw [if_neg e, if_neg (by omega)]
section GST
variable {μ : Mm} {K : MV → Mm → Prop} {n c g m m' : Nat} {p : Nat → Int32}
theorem c_guest (hg : g < 8) (hn : n ≤ 6) (hm' : m' < 256) (e0 : μ 3 0 = nI n) (ep : ∀ i, i < 48 → μ 2 i = p i) (e5 : μ 3 5 = nI m) (hor : nI m ||| ((1 : Int32) <<< (nI g &&& 31)) = nI m') (hK : K (mI (bitsI (nI m'))) (mS (mS (mW μ 5 (Fw p (μ 5) g n)) 3 5 (nI m')) 1 1 0)) : Tot e_X9_guest K 36 [mO 8 0, mI (nI g), mI 0] [] μ := by
  have lp : ∀ (d i : Nat), i + d = n → Tot e_X9_guest K 36 [mO 8 0, mI (nI g), mI (nI i)] [] (mW μ 5 (Fw p (μ 5) g i)) := by
    intro d
    induction d with
    | zero =>
      intro i hi
      have e : i = n := by omega
      subst e
      refine g_X9_guest_36 ?_
      rw [mW_c (by decide), e0, if_pos (nI_le (Nat.le_refl _) (by omega)), mS_c (by decide), mS_eq, e5, hor]
      exact c_bitCount hm' hK
    | succ d ih =>
      intro i hi
      refine g_X9_guest_36 ?_
      rw [mW_c (c' := 3) (by decide), e0, if_neg (nI_ge (by omega) (by omega))]
      refine g_X3_sign (c_at (by omega) (by decide) ?_)
      rw [mW_c (by decide), vI_mI, vI_mI, ep i (by omega)]
      refine c_worthTold (g_X8_putWorth ?_)
      rw [lit6', vI_mI]
      refine c_put (by omega) (by decide) ?_
      have := ih (i + 1) (by omega)
      rw [← nI_1] at this
      rw [mW_st Fw_at (fun k hk => Fw_ne hk)]
      exact this
  have := lp n 0 (by omega)
  rw [Fw_0, mW_id rfl] at this
  exact this
theorem d_guest (hg : g < 8) (hn : n ≤ 6) (e0 : μ 55 0 = nI n) (e1 : μ 55 1 = nI m) (hor : nI m ||| ((1 : Int32) <<< (nI g &&& 31)) = nI m') (hK : K (mI (bitsI (nI m'))) (mS (mS (mW μ 56 (Fw (μ 62) (μ 56) g n)) 55 1 (nI m')) 55 13 0)) : Tot e_X10_guest K 24 [mO 9 55, mI (nI g), mI 0] [] μ := by
  have lp : ∀ (d i : Nat), i + d = n → Tot e_X10_guest K 24 [mO 9 55, mI (nI g), mI (nI i)] [] (mW μ 56 (Fw (μ 62) (μ 56) g i)) := by
    intro d
    induction d with
    | zero =>
      intro i hi
      have e : i = n := by omega
      subst e
      refine g_X10_guest_24 ?_
      rw [mW_c (by decide), e0, if_pos (nI_le (Nat.le_refl _) (by omega)), mS_k (by decide), mS_eq, e1, hor]
      exact d_bits hK
    | succ d ih =>
      intro i hi
      refine g_X10_guest_24 ?_
      have h1 : vi (nI i) 48 := vi_nI (by omega) (by decide)
      have h2 : vi (nI (6 * g + i)) 48 := vi_nI (by omega) (by decide)
      rw [mW_c (c' := 55) (by decide), e0, if_neg (nI_ge (by omega) (by omega)), mW_c (c' := 62) (by decide), nI_clamp (by omega), lit6, nI_clamp (by omega)]
      have := ih (i + 1) (by omega)
      rw [← nI_1] at this
      refine ⟨h1, ?_⟩
      split
      · rename_i q
        refine ⟨h1, h2, ?_⟩
        rw [mW_st (f' := Fw (μ 62) (μ 56) g (i + 1)) (by rw [Fw_at]; unfold wt; rw [if_pos q]) (fun k hk => Fw_ne hk)]
        exact this
      · rename_i q
        refine ⟨h1, h2, ?_⟩
        rw [mW_st (f' := Fw (μ 62) (μ 56) g (i + 1)) (by rw [Fw_at]; unfold wt; rw [if_neg q]) (fun k hk => Fw_ne hk)]
        exact this
  have := lp n 0 (by omega)
  rw [Fw_0, mW_id rfl] at this
  exact this
end GST
theorem call_guest {μ : Mm} (r : Rl μ) (a : Int32) : s_X9_guest [mO 8 0, mI a] μ (fun v1 μ1 => s_X10_guest [mO 9 55, mI a] μ1 (fun v2 μ2 => Gd v1 v2 μ2)) := by
  obtain ⟨hp1, ⟨c, hc, hp2⟩, hp3⟩ := r.pp
  have h6 := r.n6
  refine g_X9_guest (c_within ?_)
  rw [vI_mI, ite_b, r.n3]
  cases hd : decide (0 ≤ a ∧ a ≤ 7) with
  | false =>
    refine g_X10_guest (d_in ?_)
    rw [vI_mI, ite_b, hd]
    exact ⟨rfl, r⟩
  | true =>
    obtain ⟨g, hg, rfl⟩ := nI_btw (n := 7) (by omega) (of_decide_eq_true hd).1 (of_decide_eq_true hd).2
    rw [cond_true]
    refine c_guestFault h6 hc (hp1.trans hp2) hp3 ?_
    rw [vI_mI]
    rcases gfl_or (p := μ 62) (n := nA (vM μ)) hc c 0 (by omega) with e | ⟨k, hk, e⟩
    · rw [e, if_pos rfl]
      obtain ⟨m, hm, e3, e55⟩ := r.f1
      obtain ⟨⟨m', hm', em⟩, -⟩ := or_bit m hm g (by omega)
      refine c_guest (by omega) h6 hm' r.n3 hp3 e3 em ?_
      refine g_X10_guest (d_in ?_)
      rw [vI_mI, ite_b, hd, cond_true]
      refine d_guestFault h6 hc (by simp (disch := decide) only [mS_c, mS_k, mS_eq, mW_c, mW_eq]; exact hp2) (by simp (disch := decide) only [mS_c, mS_k, mS_eq, mW_c, mW_eq]; exact r.n55) ?_
      rw [vI_mI, mS_c (c' := 62) (by decide), mS_c (c' := 62) (by decide), mW_c (c' := 62) (by decide), e, if_pos (by decide)]
      refine d_guest (n := nA (vM μ)) (m := m) (m' := m') (by omega) h6 (by simp (disch := decide) only [mS_c, mS_k, mS_eq, mW_c, mW_eq]; exact r.n55) (by simp (disch := decide) only [mS_c, mS_k, mS_eq, mW_c, mW_eq]; exact e55) em ⟨rfl, ?_⟩
      rw [mS_c (c' := 62) (by decide), mS_c (c' := 62) (by decide), mW_c (c' := 62) (by decide), mS_c (c' := 56) (by decide), mS_c (c' := 56) (by decide), mW_c (c' := 56) (by decide)]
      refine Rl_mk ?_ ?_ ?_ ?_ ?_ ?_ ?_ ?_ ?_ ?_ ?_ ?_ ?_ ?_ (r.pi.fr fun c h1 h2 h3 => by simp (disch := omega) only [mS_c, mW_c])
      · unfold F0r; simp (disch := decide) only [mS_c, mS_k, mS_eq, mW_c, mW_eq]; exact r.f0
      · unfold F1r; simp (disch := decide) only [mS_c, mS_k, mS_eq, mW_c, mW_eq]; exact ⟨m', hm', rfl, rfl⟩
      · unfold F2r; simp (disch := decide) only [mS_c, mS_k, mS_eq, mW_c, mW_eq]; exact r.f2
      · unfold F3r; simp (disch := decide) only [mS_c, mS_k, mS_eq, mW_c, mW_eq]; exact r.f3
      · unfold F4r; simp (disch := decide) only [mS_c, mS_k, mS_eq, mW_c, mW_eq]; exact r.f4
      · unfold F5r; simp (disch := decide) only [mS_c, mS_k, mS_eq, mW_c, mW_eq]; exact r.f5
      · unfold F6r; simp (disch := decide) only [mS_c, mS_k, mS_eq, mW_c, mW_eq]; exact r.f6
      · unfold G1r; simp (disch := decide) only [mS_c, mS_k, mS_eq, mW_c, mW_eq]
        intro i hi
        unfold Fw
        split
        · rfl
        · exact r.e1 hi
      · unfold G2r; simp (disch := decide) only [mS_c, mS_k, mS_eq, mW_c, mW_eq]; exact r.g2
      · unfold G3r; simp (disch := decide) only [mS_c, mS_k, mS_eq, mW_c, mW_eq]; exact r.g3
      · unfold G4r; simp (disch := decide) only [mS_c, mS_k, mS_eq, mW_c, mW_eq]; exact r.g4
      · unfold G5r; simp (disch := decide) only [mS_c, mS_k, mS_eq, mW_c, mW_eq]; exact r.g5
      · unfold Ppr; simp (disch := decide) only [mS_c, mS_k, mS_eq, mW_c, mW_eq]; exact ⟨rfl, ⟨0, by omega, rfl⟩, hp3⟩
      · unfold Pmr; simp (disch := decide) only [mS_c, mS_k, mS_eq, mW_c, mW_eq]; exact r.pm
    · rw [e, if_neg (neg6_nI hk)]
      refine g_X10_guest (d_in ?_)
      rw [vI_mI, ite_b, hd, cond_true]
      refine d_guestFault h6 hc hp2 r.n55 ?_
      rw [vI_mI, e, if_neg (nI_pos (by omega))]
      exact ⟨rfl, r⟩
def Fo (p f : Nat → Int32) (i : Nat) : Nat → Int32 := fun k => if k < i then p k - 48 else f k
theorem Fo_0 {p f : Nat → Int32} : Fo p f 0 = f := by
  funext k
  unfold Fo
  rw [if_neg (by omega)]
theorem Fo_at {p f : Nat → Int32} {i : Nat} : Fo p f (i + 1) i = p i - 48 := by
  unfold Fo
  rw [if_pos (by omega)]
theorem Fo_ne {p f : Nat → Int32} {i k : Nat} (h : k ≠ i) : Fo p f (i + 1) k = Fo p f i k := by
  unfold Fo
  by_cases e : k < i
  · rw [if_pos e, if_pos (by omega)]
  · rw [if_neg e, if_neg (by omega)]
theorem c_play {μ : Mm} {K : MV → Mm → Prop} {n : Nat} {p : Nat → Int32} (hn : n ≤ 6) (e0 : μ 3 0 = nI n) (ep : ∀ i, i < 48 → μ 2 i = p i) (hK : K (mI 1) (mS (mW μ 4 (Fo p (μ 4) n)) 1 1 0)) : Tot e_X9_play K 24 [mO 8 0, mI 0] [] μ := by
  have lp : ∀ (d i : Nat), i + d = n → Tot e_X9_play K 24 [mO 8 0, mI (nI i)] [] (mW μ 4 (Fo p (μ 4) i)) := by
    intro d
    induction d with
    | zero =>
      intro i hi
      have e : i = n := by omega
      subst e
      refine g_X9_play_24 ?_
      rw [mW_c (by decide), e0, if_pos (nI_le (Nat.le_refl _) (by omega))]
      exact hK
    | succ d ih =>
      intro i hi
      refine g_X9_play_24 ?_
      rw [mW_c (c' := 3) (by decide), e0, if_neg (nI_ge (by omega) (by omega))]
      refine g_X3_sign (c_at (by omega) (by decide) (g_X3_actTold ?_))
      rw [mW_c (by decide), vI_mI, vI_mI, vI_mI, ep i (by omega)]
      refine c_put (by omega) (by decide) ?_
      have := ih (i + 1) (by omega)
      rw [← nI_1] at this
      rw [mW_st Fo_at (fun k hk => Fo_ne hk)]
      exact this
  have := lp n 0 (by omega)
  rw [Fo_0, mW_id rfl] at this
  exact this
theorem d_play {μ : Mm} {K : MV → Mm → Prop} {n : Nat} (hn : n ≤ 6) (e0 : μ 55 0 = nI n) (hK : K (mI 1) (mS (mW μ 57 (Fo (μ 62) (μ 57) n)) 55 13 0)) : Tot e_X10_play K 12 [mO 9 55, mI 0] [] μ := by
  have lp : ∀ (d i : Nat), i + d = n → Tot e_X10_play K 12 [mO 9 55, mI (nI i)] [] (mW μ 57 (Fo (μ 62) (μ 57) i)) := by
    intro d
    induction d with
    | zero =>
      intro i hi
      have e : i = n := by omega
      subst e
      refine g_X10_play_12 ?_
      rw [mW_c (by decide), e0, if_pos (nI_le (Nat.le_refl _) (by omega))]
      exact hK
    | succ d ih =>
      intro i hi
      refine g_X10_play_12 ?_
      rw [mW_c (c' := 55) (by decide), e0, if_neg (nI_ge (by omega) (by omega)), mW_c (c' := 62) (by decide), nI_clamp (by omega)]
      refine ⟨vi_nI (by omega) (by decide), vi_nI (by omega) (by decide), ?_⟩
      have := ih (i + 1) (by omega)
      rw [← nI_1] at this
      rw [mW_st Fo_at (fun k hk => Fo_ne hk)]
      exact this
  have := lp n 0 (by omega)
  rw [Fo_0, mW_id rfl] at this
  exact this
theorem call_play {μ : Mm} (r : Rl μ) : s_X9_play [mO 8 0] μ (fun v1 μ1 => s_X10_play [mO 9 55] μ1 (fun v2 μ2 => Gd v1 v2 μ2)) := by
  obtain ⟨hp1, ⟨c, hc, hp2⟩, hp3⟩ := r.pp
  have h6 := r.n6
  refine g_X9_play ?_
  rw [r.n3]
  refine c_orderFault h6 hc (hp1.trans hp2) hp3 ?_
  rw [vI_mI]
  rcases ofl_or (p := μ 62) (n := nA (vM μ)) hc c 0 0 (by omega) with ⟨e, hnc, hall⟩ | ⟨k, hk, e⟩
  · rw [e, if_pos rfl]
    refine c_play h6 r.n3 hp3 ?_
    refine g_X10_play (d_orderFault h6 hc (by simp (disch := decide) only [mS_c, mS_k, mS_eq, mW_c, mW_eq]; exact hp2) (by simp (disch := decide) only [mS_c, mS_k, mS_eq, mW_c, mW_eq]; exact r.n55) ?_)
    rw [vI_mI, mS_c (c' := 62) (by decide), mW_c (c' := 62) (by decide), e, if_pos (by decide)]
    refine d_play (n := nA (vM μ)) h6 (by simp (disch := decide) only [mS_c, mS_k, mS_eq, mW_c, mW_eq]; exact r.n55) ⟨rfl, ?_⟩
    rw [mS_c (c' := 62) (by decide), mW_c (c' := 62) (by decide), mS_c (c' := 57) (by decide), mW_c (c' := 57) (by decide)]
    refine Rl_mk ?_ ?_ ?_ ?_ ?_ ?_ ?_ ?_ ?_ ?_ ?_ ?_ ?_ ?_ (r.pi.fr fun c h1 h2 h3 => by simp (disch := omega) only [mS_c, mW_c])
    · unfold F0r; simp (disch := decide) only [mS_c, mS_k, mS_eq, mW_c, mW_eq]; exact r.f0
    · unfold F1r; simp (disch := decide) only [mS_c, mS_k, mS_eq, mW_c, mW_eq]; exact r.f1
    · unfold F2r; simp (disch := decide) only [mS_c, mS_k, mS_eq, mW_c, mW_eq]; exact r.f2
    · unfold F3r; simp (disch := decide) only [mS_c, mS_k, mS_eq, mW_c, mW_eq]; exact r.f3
    · unfold F4r; simp (disch := decide) only [mS_c, mS_k, mS_eq, mW_c, mW_eq]; exact r.f4
    · unfold F5r; simp (disch := decide) only [mS_c, mS_k, mS_eq, mW_c, mW_eq]; exact r.f5
    · unfold F6r; simp (disch := decide) only [mS_c, mS_k, mS_eq, mW_c, mW_eq]; exact r.f6
    · unfold G1r; simp (disch := decide) only [mS_c, mS_k, mS_eq, mW_c, mW_eq]; exact r.g1
    · unfold G2r; simp (disch := decide) only [mS_c, mS_k, mS_eq, mW_c, mW_eq]
      intro j hj
      unfold Fo
      by_cases q : j < nA (vM μ)
      · rw [if_pos q, if_pos q]
        obtain ⟨a, ha, ea⟩ := act_in r.n1 r.n6 (hall j (by omega) (by omega))
        exact ⟨a, by omega, ea, ea⟩
      · rw [if_neg q, if_neg q]
        exact r.g2 j hj
    · unfold G3r; simp (disch := decide) only [mS_c, mS_k, mS_eq, mW_c, mW_eq]; exact r.g3
    · unfold G4r; simp (disch := decide) only [mS_c, mS_k, mS_eq, mW_c, mW_eq]; exact r.g4
    · unfold G5r; simp (disch := decide) only [mS_c, mS_k, mS_eq, mW_c, mW_eq]; exact r.g5
    · unfold Ppr; simp (disch := decide) only [mS_c, mS_k, mS_eq, mW_c, mW_eq]; exact ⟨rfl, ⟨0, by omega, rfl⟩, hp3⟩
    · unfold Pmr; simp (disch := decide) only [mS_c, mS_k, mS_eq, mW_c, mW_eq]; exact r.pm
  · rw [e, if_neg (neg6_nI hk)]
    refine g_X10_play (d_orderFault h6 hc hp2 r.n55 ?_)
    rw [vI_mI, e, if_neg (nI_pos (by omega))]
    exact ⟨rfl, r⟩
theorem call_set {μ : Mm} (r : Rl μ) (a b : Int32) : s_X9_set [mO 8 0, mI a, mI b] μ (fun v1 μ1 => s_X10_set [mO 9 55, mI a, mI b] μ1 (fun v2 μ2 => Gd v1 v2 μ2)) := by
  refine g_X9_set (c_within ?_)
  rw [vI_mI, ite_b]
  cases hd : decide (0 ≤ a ∧ a ≤ 3) with
  | false =>
    refine g_X10_set (d_in ?_)
    rw [vI_mI, ite_b, hd]
    exact ⟨rfl, r⟩
  | true =>
    obtain ⟨t, ht, rfl⟩ := nI_btw (n := 3) (by omega) (of_decide_eq_true hd).1 (of_decide_eq_true hd).2
    rw [cond_true]
    have n01 : ¬ nI 0 = 1 := by decide
    have n02 : ¬ nI 0 = 2 := by decide
    have n03 : ¬ nI 0 = 3 := by decide
    have n10 : ¬ nI 1 = 0 := by decide
    have n12 : ¬ nI 1 = 2 := by decide
    have n13 : ¬ nI 1 = 3 := by decide
    have n20 : ¬ nI 2 = 0 := by decide
    have n21 : ¬ nI 2 = 1 := by decide
    have n23 : ¬ nI 2 = 3 := by decide
    have n30 : ¬ nI 3 = 0 := by decide
    have n31 : ¬ nI 3 = 1 := by decide
    have n32 : ¬ nI 3 = 2 := by decide
    have p0 : nI 0 = 0 := rfl
    have p1 : nI 1 = 1 := rfl
    have p2 : nI 2 = 2 := rfl
    have p3 : nI 3 = 3 := rfl
    have : t = 0 ∨ t = 1 ∨ t = 2 ∨ t = 3 := by omega
    rcases this with rfl | rfl | rfl | rfl
    · refine g_X9_settingLimit ?_
      simp only [if_neg n01, if_neg n02, if_neg n03, if_pos p0]
      refine c_within ?_
      rw [vI_mI, vI_mI, ite_b]
      cases hb : decide (0 ≤ b ∧ b ≤ 30) with
      | false =>
        refine g_X10_set (d_in ?_)
        rw [vI_mI, ite_b, hd, cond_true]
        simp only [if_neg n01, if_neg n02, if_neg n03, if_pos p0]
        refine d_in ?_
        rw [vI_mI, ite_b, hb]
        exact ⟨rfl, r⟩
      | true =>
        rw [cond_true]
        obtain ⟨k, hk, rfl⟩ := nI_btw (n := 30) (by omega) (of_decide_eq_true hb).1 (of_decide_eq_true hb).2
        refine g_X8_setting ?_
        simp only [if_neg n01, if_neg n02, if_neg n03, if_pos p0]
        refine g_X8_putSetting ?_
        simp only [if_neg n01, if_neg n02, if_neg n03, if_pos p0]
        refine g_X10_set (d_in ?_)
        rw [vI_mI, ite_b, hd, cond_true]
        simp only [if_neg n01, if_neg n02, if_neg n03, if_pos p0]
        refine d_in ?_
        rw [vI_mI, ite_b, hb, cond_true]
        simp (disch := decide) only [mS_c, mS_k, mS_eq]
        refine ⟨?_, ?_⟩
        · rw [vI_mI, r.s2]
        · skip
          refine Rl_mk ?_ ?_ ?_ ?_ ?_ ?_ ?_ ?_ ?_ ?_ ?_ ?_ ?_ ?_ (r.pi.fr fun c h1 h2 h3 => by simp (disch := omega) only [mS_c])
          · unfold F0r; simp (disch := decide) only [mS_c, mS_k, mS_eq]; exact r.f0
          · unfold F1r; simp (disch := decide) only [mS_c, mS_k, mS_eq]; exact r.f1
          · unfold F2r; simp (disch := decide) only [mS_c, mS_k, mS_eq]; exact ⟨k, by omega, rfl, rfl⟩
          · unfold F3r; simp (disch := decide) only [mS_c, mS_k, mS_eq]; exact r.f3
          · unfold F4r; simp (disch := decide) only [mS_c, mS_k, mS_eq]; exact r.f4
          · unfold F5r; simp (disch := decide) only [mS_c, mS_k, mS_eq]; exact r.f5
          · unfold F6r; simp (disch := decide) only [mS_c, mS_k, mS_eq]; exact r.f6
          · unfold G1r; simp (disch := decide) only [mS_c, mS_k, mS_eq]; exact r.g1
          · unfold G2r; simp (disch := decide) only [mS_c, mS_k, mS_eq]; exact r.g2
          · unfold G3r; simp (disch := decide) only [mS_c, mS_k, mS_eq]; exact r.g3
          · unfold G4r; simp (disch := decide) only [mS_c, mS_k, mS_eq]; exact r.g4
          · unfold G5r; simp (disch := decide) only [mS_c, mS_k, mS_eq]; exact r.g5
          · unfold Ppr; simp (disch := decide) only [mS_c, mS_k, mS_eq]; exact r.pp
          · unfold Pmr; simp (disch := decide) only [mS_c, mS_k, mS_eq]; exact r.pm
    · refine g_X9_settingLimit ?_
      simp only [if_neg n10, if_neg n12, if_neg n13, if_pos p1]
      refine c_within ?_
      rw [vI_mI, vI_mI, ite_b]
      cases hb : decide (0 ≤ b ∧ b ≤ 9) with
      | false =>
        refine g_X10_set (d_in ?_)
        rw [vI_mI, ite_b, hd, cond_true]
        simp only [if_neg n10, if_neg n12, if_neg n13, if_pos p1]
        refine d_in ?_
        rw [vI_mI, ite_b, hb]
        exact ⟨rfl, r⟩
      | true =>
        rw [cond_true]
        obtain ⟨k, hk, rfl⟩ := nI_btw (n := 9) (by omega) (of_decide_eq_true hb).1 (of_decide_eq_true hb).2
        refine g_X8_setting ?_
        simp only [if_neg n10, if_neg n12, if_neg n13, if_pos p1]
        refine g_X8_putSetting ?_
        simp only [if_neg n10, if_neg n12, if_neg n13, if_pos p1]
        refine g_X10_set (d_in ?_)
        rw [vI_mI, ite_b, hd, cond_true]
        simp only [if_neg n10, if_neg n12, if_neg n13, if_pos p1]
        refine d_in ?_
        rw [vI_mI, ite_b, hb, cond_true]
        simp (disch := decide) only [mS_c, mS_k, mS_eq]
        refine ⟨?_, ?_⟩
        · rw [vI_mI, r.s3]
        · skip
          refine Rl_mk ?_ ?_ ?_ ?_ ?_ ?_ ?_ ?_ ?_ ?_ ?_ ?_ ?_ ?_ (r.pi.fr fun c h1 h2 h3 => by simp (disch := omega) only [mS_c])
          · unfold F0r; simp (disch := decide) only [mS_c, mS_k, mS_eq]; exact r.f0
          · unfold F1r; simp (disch := decide) only [mS_c, mS_k, mS_eq]; exact r.f1
          · unfold F2r; simp (disch := decide) only [mS_c, mS_k, mS_eq]; exact r.f2
          · unfold F3r; simp (disch := decide) only [mS_c, mS_k, mS_eq]; exact ⟨k, by omega, rfl, rfl⟩
          · unfold F4r; simp (disch := decide) only [mS_c, mS_k, mS_eq]; exact r.f4
          · unfold F5r; simp (disch := decide) only [mS_c, mS_k, mS_eq]; exact r.f5
          · unfold F6r; simp (disch := decide) only [mS_c, mS_k, mS_eq]; exact r.f6
          · unfold G1r; simp (disch := decide) only [mS_c, mS_k, mS_eq]; exact r.g1
          · unfold G2r; simp (disch := decide) only [mS_c, mS_k, mS_eq]; exact r.g2
          · unfold G3r; simp (disch := decide) only [mS_c, mS_k, mS_eq]; exact r.g3
          · unfold G4r; simp (disch := decide) only [mS_c, mS_k, mS_eq]; exact r.g4
          · unfold G5r; simp (disch := decide) only [mS_c, mS_k, mS_eq]; exact r.g5
          · unfold Ppr; simp (disch := decide) only [mS_c, mS_k, mS_eq]; exact r.pp
          · unfold Pmr; simp (disch := decide) only [mS_c, mS_k, mS_eq]; exact r.pm
    · refine g_X9_settingLimit ?_
      simp only [if_neg n20, if_neg n21, if_neg n23, if_pos p2]
      refine c_within ?_
      rw [vI_mI, vI_mI, ite_b]
      cases hb : decide (0 ≤ b ∧ b ≤ 1) with
      | false =>
        refine g_X10_set (d_in ?_)
        rw [vI_mI, ite_b, hd, cond_true]
        simp only [if_neg n20, if_neg n21, if_neg n23, if_pos p2]
        refine d_in ?_
        rw [vI_mI, ite_b, hb]
        exact ⟨rfl, r⟩
      | true =>
        rw [cond_true]
        obtain ⟨k, hk, rfl⟩ := nI_btw (n := 1) (by omega) (of_decide_eq_true hb).1 (of_decide_eq_true hb).2
        refine g_X8_setting ?_
        simp only [if_neg n20, if_neg n21, if_neg n23, if_pos p2]
        refine g_X8_putSetting ?_
        simp only [if_neg n20, if_neg n21, if_neg n23, if_pos p2]
        refine g_X10_set (d_in ?_)
        rw [vI_mI, ite_b, hd, cond_true]
        simp only [if_neg n20, if_neg n21, if_neg n23, if_pos p2]
        refine d_in ?_
        rw [vI_mI, ite_b, hb, cond_true]
        simp (disch := decide) only [mS_c, mS_k, mS_eq]
        refine ⟨?_, ?_⟩
        · rw [vI_mI, r.s4]
        · skip
          refine Rl_mk ?_ ?_ ?_ ?_ ?_ ?_ ?_ ?_ ?_ ?_ ?_ ?_ ?_ ?_ (r.pi.fr fun c h1 h2 h3 => by simp (disch := omega) only [mS_c])
          · unfold F0r; simp (disch := decide) only [mS_c, mS_k, mS_eq]; exact r.f0
          · unfold F1r; simp (disch := decide) only [mS_c, mS_k, mS_eq]; exact r.f1
          · unfold F2r; simp (disch := decide) only [mS_c, mS_k, mS_eq]; exact r.f2
          · unfold F3r; simp (disch := decide) only [mS_c, mS_k, mS_eq]; exact r.f3
          · unfold F4r; simp (disch := decide) only [mS_c, mS_k, mS_eq]; exact ⟨k, by omega, rfl, rfl⟩
          · unfold F5r; simp (disch := decide) only [mS_c, mS_k, mS_eq]; exact r.f5
          · unfold F6r; simp (disch := decide) only [mS_c, mS_k, mS_eq]; exact r.f6
          · unfold G1r; simp (disch := decide) only [mS_c, mS_k, mS_eq]; exact r.g1
          · unfold G2r; simp (disch := decide) only [mS_c, mS_k, mS_eq]; exact r.g2
          · unfold G3r; simp (disch := decide) only [mS_c, mS_k, mS_eq]; exact r.g3
          · unfold G4r; simp (disch := decide) only [mS_c, mS_k, mS_eq]; exact r.g4
          · unfold G5r; simp (disch := decide) only [mS_c, mS_k, mS_eq]; exact r.g5
          · unfold Ppr; simp (disch := decide) only [mS_c, mS_k, mS_eq]; exact r.pp
          · unfold Pmr; simp (disch := decide) only [mS_c, mS_k, mS_eq]; exact r.pm
    · refine g_X9_settingLimit ?_
      simp only [if_neg n30, if_neg n31, if_neg n32, if_pos p3]
      refine c_within ?_
      rw [vI_mI, vI_mI, ite_b]
      cases hb : decide (0 ≤ b ∧ b ≤ 30) with
      | false =>
        refine g_X10_set (d_in ?_)
        rw [vI_mI, ite_b, hd, cond_true]
        simp only [if_neg n30, if_neg n31, if_neg n32, if_pos p3]
        refine d_in ?_
        rw [vI_mI, ite_b, hb]
        exact ⟨rfl, r⟩
      | true =>
        rw [cond_true]
        obtain ⟨k, hk, rfl⟩ := nI_btw (n := 30) (by omega) (of_decide_eq_true hb).1 (of_decide_eq_true hb).2
        refine g_X8_setting ?_
        simp only [if_neg n30, if_neg n31, if_neg n32, if_pos p3]
        refine g_X8_putSetting ?_
        simp only [if_neg n30, if_neg n31, if_neg n32, if_pos p3]
        refine g_X10_set (d_in ?_)
        rw [vI_mI, ite_b, hd, cond_true]
        simp only [if_neg n30, if_neg n31, if_neg n32, if_pos p3]
        refine d_in ?_
        rw [vI_mI, ite_b, hb, cond_true]
        simp (disch := decide) only [mS_c, mS_k, mS_eq]
        refine ⟨?_, ?_⟩
        · rw [vI_mI, r.s5]
        · skip
          refine Rl_mk ?_ ?_ ?_ ?_ ?_ ?_ ?_ ?_ ?_ ?_ ?_ ?_ ?_ ?_ (r.pi.fr fun c h1 h2 h3 => by simp (disch := omega) only [mS_c])
          · unfold F0r; simp (disch := decide) only [mS_c, mS_k, mS_eq]; exact r.f0
          · unfold F1r; simp (disch := decide) only [mS_c, mS_k, mS_eq]; exact r.f1
          · unfold F2r; simp (disch := decide) only [mS_c, mS_k, mS_eq]; exact r.f2
          · unfold F3r; simp (disch := decide) only [mS_c, mS_k, mS_eq]; exact r.f3
          · unfold F4r; simp (disch := decide) only [mS_c, mS_k, mS_eq]; exact r.f4
          · unfold F5r; simp (disch := decide) only [mS_c, mS_k, mS_eq]; exact ⟨k, by omega, rfl, rfl⟩
          · unfold F6r; simp (disch := decide) only [mS_c, mS_k, mS_eq]; exact r.f6
          · unfold G1r; simp (disch := decide) only [mS_c, mS_k, mS_eq]; exact r.g1
          · unfold G2r; simp (disch := decide) only [mS_c, mS_k, mS_eq]; exact r.g2
          · unfold G3r; simp (disch := decide) only [mS_c, mS_k, mS_eq]; exact r.g3
          · unfold G4r; simp (disch := decide) only [mS_c, mS_k, mS_eq]; exact r.g4
          · unfold G5r; simp (disch := decide) only [mS_c, mS_k, mS_eq]; exact r.g5
          · unfold Ppr; simp (disch := decide) only [mS_c, mS_k, mS_eq]; exact r.pp
          · unfold Pmr; simp (disch := decide) only [mS_c, mS_k, mS_eq]; exact r.pm
end
section
/-! ===== acts; a copy of a Stage ===== -/
def Fi (g f : Nat → Int32) (i : Nat) : Nat → Int32 := fun k => if k < i then g k else f k
theorem Fi_0 {g f : Nat → Int32} : Fi g f 0 = f := by
  funext k
  unfold Fi
  rw [if_neg (by omega)]
theorem Fi_at {g f : Nat → Int32} {i : Nat} : Fi g f (i + 1) i = g i := by
  unfold Fi
  rw [if_pos (by omega)]
theorem Fi_ne {g f : Nat → Int32} {i k : Nat} (h : k ≠ i) : Fi g f (i + 1) k = Fi g f i k := by
  unfold Fi
  by_cases e : k < i
  · rw [if_pos e, if_pos (by omega)]
  · rw [if_neg e, if_neg (by omega)]
theorem Fi_lt {g f : Nat → Int32} {i k : Nat} (h : k < i) : Fi g f i k = g k := if_pos h
theorem mW_mW {μ : Mm} {c : Nat} {f g : Nat → Int32} : mW (mW μ c f) c g = mW μ c g := by
  funext a b
  unfold mW
  split <;> rfl
theorem c_obn {μ : Mm} {K : MV → Mm → Prop} {c : Nat} (hK : K mU (mW μ (c + 1) (Fi nI (μ (c + 1)) 6))) : s_X8_orderByNumbers [mO 7 c] μ K := by
  refine g_X8_orderByNumbers ?_
  have lp : ∀ (d i : Nat), i + d = 6 → Tot e_X8_orderByNumbers K 2 [mO 7 c, mI (nI i)] [] (mW μ (c + 1) (Fi nI (μ (c + 1)) i)) := by
    intro d
    induction d with
    | zero =>
      intro i hi
      have e : i = 6 := by omega
      subst e
      refine g_X8_orderByNumbers_2 ?_
      rw [if_pos (by decide)]
      exact hK
    | succ d ih =>
      intro i hi
      refine g_X8_orderByNumbers_2 ?_
      rw [if_neg (show ¬ (6 : Int32) ≤ nI i from nI_ge (b := 6) (by omega) (by omega))]
      refine c_put (by omega) (by decide) ?_
      have := ih (i + 1) (by omega)
      rw [← nI_1] at this
      rw [mW_st Fi_at (fun k hk => Fi_ne hk)]
      exact this
  have := lp 6 0 rfl
  rw [Fi_0, mW_id rfl] at this
  exact this
def zr : Nat → Int32 := fun _ => 0
theorem c_open {μ : Mm} {K : MV → Mm → Prop} {x : Int32} (hK : K mU (mW (mW (mW (mW (mS (mS (mS μ 3 0 x) 3 5 0) 9 0 0) 4 (Fi nI (μ 4) 6)) 6 (Fi zr (μ 6) 6)) 7 (Fi zr (μ 7) 6)) 8 (Fi zr (μ 8) 8))) : s_X8_openWith [mO 7 3, mI x] μ K := by
  refine g_X8_openWith (c_obn ?_)
  rw [mS_c (c' := 3 + 1) (by decide), mS_c (c' := 3 + 1) (by decide), mS_c (c' := 3 + 1) (by decide)]
  generalize hB : mW (mS (mS (mS μ 3 0 x) 3 5 0) (3 + 6) 0 0) (3 + 1) (Fi nI (μ (3 + 1)) 6) = B
  have h6 : B 6 = μ 6 := by rw [← hB]; simp (disch := decide) only [mS_c, mW_c]
  have h7 : B 7 = μ 7 := by rw [← hB]; simp (disch := decide) only [mS_c, mW_c]
  have h8 : B 8 = μ 8 := by rw [← hB]; simp (disch := decide) only [mS_c, mW_c]
  have hK : K mU (mW (mW (mW B 6 (Fi zr (μ 6) 6)) 7 (Fi zr (μ 7) 6)) 8 (Fi zr (μ 8) 8)) := by rw [← hB]; exact hK
  have l2 : ∀ (d i : Nat), i + d = 8 → Tot e_X8_openWith K 56 [mO 7 3, mI x, mI (nI i)] [] (mW (mW (mW B 6 (Fi zr (μ 6) 6)) 7 (Fi zr (μ 7) 6)) 8 (Fi zr (μ 8) i)) := by
    intro d
    induction d with
    | zero =>
      intro i hi
      have e : i = 8 := by omega
      subst e
      refine g_X8_openWith_56 ?_
      rw [if_pos (by decide)]
      exact hK
    | succ d ih =>
      intro i hi
      refine g_X8_openWith_56 ?_
      rw [if_neg (show ¬ (8 : Int32) ≤ nI i from nI_ge (b := 8) (by omega) (by omega))]
      refine c_put (by omega) (by decide) ?_
      have := ih (i + 1) (by omega)
      rw [← nI_1] at this
      rw [show 3 + 5 = 8 from rfl, mW_st (c := 8) (x := 0) (f' := Fi zr (μ 8) (i + 1)) (show Fi zr (μ 8) (i + 1) i = 0 from Fi_at) (fun k hk => Fi_ne hk)]
      exact this
  have l1 : ∀ (d i : Nat), i + d = 6 → Tot e_X8_openWith K 24 [mO 7 3, mI x, mI (nI i)] [] (mW (mW B 6 (Fi zr (μ 6) i)) 7 (Fi zr (μ 7) i)) := by
    intro d
    induction d with
    | zero =>
      intro i hi
      have e : i = 6 := by omega
      subst e
      refine g_X8_openWith_24 ?_
      rw [if_pos (by decide)]
      have := l2 8 0 rfl
      rw [Fi_0, mW_id (by simp (disch := decide) only [mW_c]; exact h8.symm)] at this
      exact this
    | succ d ih =>
      intro i hi
      refine g_X8_openWith_24 ?_
      rw [if_neg (show ¬ (6 : Int32) ≤ nI i from nI_ge (b := 6) (by omega) (by omega))]
      refine c_put (by omega) (by decide) ?_
      refine c_put (by omega) (by decide) ?_
      have := ih (i + 1) (by omega)
      rw [← nI_1] at this
      rw [show 3 + 3 = 6 from rfl, show 3 + 4 = 7 from rfl, mW_mS (c := 7) (c' := 6) (by decide), mW_st (c := 6) (x := 0) (f' := Fi zr (μ 6) (i + 1)) (show Fi zr (μ 6) (i + 1) i = 0 from Fi_at) (fun k hk => Fi_ne hk), mW_st (c := 7) (x := 0) (f' := Fi zr (μ 7) (i + 1)) (show Fi zr (μ 7) (i + 1) i = 0 from Fi_at) (fun k hk => Fi_ne hk)]
      exact this
  have := l1 6 0 rfl
  rw [Fi_0, Fi_0, mW_id h6.symm, mW_id h7.symm] at this
  exact this
theorem d_plain {μ : Mm} {K : MV → Mm → Prop} (hK : K mU (mW (mW (mW (mW (mS (mS μ 55 1 0) 55 11 0) 57 (Fi nI (μ 57) 6)) 58 (Fi zr (μ 58) 6)) 59 (Fi zr (μ 59) 6)) 60 (Fi zr (μ 60) 8))) : s_X10_plain [mO 9 55] μ K := by
  refine g_X10_plain ?_
  generalize hB : mS (mS μ 55 1 0) 55 11 0 = B at hK ⊢
  have h57 : B 57 = μ 57 := by rw [← hB]; simp (disch := decide) only [mS_c]
  have h58 : B 58 = μ 58 := by rw [← hB]; simp (disch := decide) only [mS_c]
  have h59 : B 59 = μ 59 := by rw [← hB]; simp (disch := decide) only [mS_c]
  have h60 : B 60 = μ 60 := by rw [← hB]; simp (disch := decide) only [mS_c]
  have l2 : ∀ (d i : Nat), i + d = 8 → Tot e_X10_plain K 47 [mO 9 55, mI (nI i)] [] (mW (mW (mW (mW B 57 (Fi nI (μ 57) 6)) 58 (Fi zr (μ 58) 6)) 59 (Fi zr (μ 59) 6)) 60 (Fi zr (μ 60) i)) := by
    intro d
    induction d with
    | zero =>
      intro i hi
      have e : i = 8 := by omega
      subst e
      refine g_X10_plain_47 ?_
      rw [if_pos (by decide)]
      exact hK
    | succ d ih =>
      intro i hi
      refine g_X10_plain_47 ?_
      rw [if_neg (show ¬ (8 : Int32) ≤ nI i from nI_ge (b := 8) (by omega) (by omega)), nI_clamp (by omega)]
      refine ⟨vi_nI (by omega) (by decide), ?_⟩
      have := ih (i + 1) (by omega)
      rw [← nI_1] at this
      rw [mW_st (c := 60) (x := 0) (f' := Fi zr (μ 60) (i + 1)) (show Fi zr (μ 60) (i + 1) i = 0 from Fi_at) (fun k hk => Fi_ne hk)]
      exact this
  have l1 : ∀ (d i : Nat), i + d = 6 → Tot e_X10_plain K 12 [mO 9 55, mI (nI i)] [] (mW (mW (mW B 57 (Fi nI (μ 57) i)) 58 (Fi zr (μ 58) i)) 59 (Fi zr (μ 59) i)) := by
    intro d
    induction d with
    | zero =>
      intro i hi
      have e : i = 6 := by omega
      subst e
      refine g_X10_plain_12 ?_
      rw [if_pos (by decide)]
      have := l2 8 0 rfl
      rw [Fi_0, mW_id (by simp (disch := decide) only [mW_c]; exact h60.symm)] at this
      exact this
    | succ d ih =>
      intro i hi
      refine g_X10_plain_12 ?_
      rw [if_neg (show ¬ (6 : Int32) ≤ nI i from nI_ge (b := 6) (by omega) (by omega)), nI_clamp (by omega)]
      have hv : vi (nI i) 6 := vi_nI (by omega) (by decide)
      refine ⟨hv, hv, hv, ?_⟩
      have := ih (i + 1) (by omega)
      rw [← nI_1] at this
      rw [mW_mS (c := 59) (c' := 57) (by decide), mW_mS (c := 58) (c' := 57) (by decide), mW_mS (c := 59) (c' := 58) (by decide), mW_st (c := 57) (f' := Fi nI (μ 57) (i + 1)) Fi_at (fun k hk => Fi_ne hk), mW_st (c := 58) (x := 0) (f' := Fi zr (μ 58) (i + 1)) (show Fi zr (μ 58) (i + 1) i = 0 from Fi_at) (fun k hk => Fi_ne hk), mW_st (c := 59) (x := 0) (f' := Fi zr (μ 59) (i + 1)) (show Fi zr (μ 59) (i + 1) i = 0 from Fi_at) (fun k hk => Fi_ne hk)]
      exact this
  have := l1 6 0 rfl
  rw [Fi_0, Fi_0, Fi_0, mW_id h57.symm, mW_id h58.symm, mW_id h59.symm] at this
  exact this
theorem bb0 {k : Nat} : bb 0 k = false := by
  unfold bb
  have : ((0 : Int32) >>> (nI k &&& 31)) &&& 1 = 0 := by
    rw [Int32.zero_shiftRight]
    rfl
  rw [this]
  rfl
theorem Pm_0 {n : Nat} {f g : Nat → Int32} (hf : ∀ x, x < 6 → f x = 0) (hg : ∀ x, x < 6 → g x = 0) : Pm n f g := by
  refine ⟨fun x hx => ⟨0, by omega, hf x hx⟩, fun x hx => ⟨0, by omega, hg x hx⟩, fun x y hx hy h => ?_, fun x y hx hy => ⟨fun h => ?_, fun ⟨m, h⟩ => ?_⟩, fun x hx => by rw [hf x hx]; exact bb0⟩
  · rw [hg x hx, bb0] at h; cases h
  · rw [hf x hx, bb0] at h; cases h
  · exfalso
    cases m with
    | zero =>
      have h : bb (g x) y = true := h
      rw [hg x hx, bb0] at h; cases h
    | succ m =>
      obtain ⟨z, hz, h1, h2⟩ := h
      rw [hg x hx, bb0] at h1; cases h1
theorem call_acts {μ : Mm} (r : Rl μ) (a : Int32) : s_X9_acts [mO 8 0, mI a] μ (fun v1 μ1 => s_X10_acts [mO 9 55, mI a] μ1 (fun v2 μ2 => Gd v1 v2 μ2)) := by
  refine g_X9_acts (c_within ?_)
  rw [vI_mI, ite_b]
  cases hd : decide (1 ≤ a ∧ a ≤ 6) with
  | false =>
    refine g_X10_acts (d_in ?_)
    rw [vI_mI, ite_b, hd]
    exact ⟨rfl, r⟩
  | true =>
    have hd2 := of_decide_eq_true hd
    obtain ⟨n, hn, rfl⟩ := nI_btw (n := 6) (by omega) (Int32.le_trans (by decide) hd2.1) hd2.2
    have hn1 : 1 ≤ n := (nI_leI (a := 1) (by omega) (by omega)).mp hd2.1
    rw [cond_true]
    refine c_open ?_
    refine g_X10_acts (d_in ?_)
    rw [vI_mI, ite_b, hd, cond_true]
    refine d_plain ⟨?_, ?_⟩
    · simp (disch := decide) only [mS_c, mS_k, mS_eq, mW_c, mW_eq]
      rw [r.s0]
    · rw [show (mS (mW (mW (mW (mW (mS (mS (mS μ 3 0 (nI n)) 3 5 0) 9 0 0) 4 (Fi nI (μ 4) 6)) 6 (Fi zr (μ 6) 6)) 7 (Fi zr (μ 7) 6)) 8 (Fi zr (μ 8) 8)) 55 0 (nI n)) 57 = μ 57 by simp (disch := decide) only [mS_c, mS_k, mS_eq, mW_c, mW_eq]]
      refine Rl_mk ?_ ?_ ?_ ?_ ?_ ?_ ?_ ?_ ?_ ?_ ?_ ?_ ?_ ?_ (r.pi.fr fun c h1 h2 h3 => by simp (disch := omega) only [mS_c, mW_c])
      · unfold F0r; simp (disch := decide) only [mS_c, mS_k, mS_eq, mW_c, mW_eq]; exact ⟨n, hn1, hn, rfl, rfl⟩
      · unfold F1r; simp (disch := decide) only [mS_c, mS_k, mS_eq, mW_c, mW_eq]; exact ⟨0, by omega, rfl, rfl⟩
      · unfold F2r; simp (disch := decide) only [mS_c, mS_k, mS_eq, mW_c, mW_eq]; exact r.f2
      · unfold F3r; simp (disch := decide) only [mS_c, mS_k, mS_eq, mW_c, mW_eq]; exact r.f3
      · unfold F4r; simp (disch := decide) only [mS_c, mS_k, mS_eq, mW_c, mW_eq]; exact r.f4
      · unfold F5r; simp (disch := decide) only [mS_c, mS_k, mS_eq, mW_c, mW_eq]; exact r.f5
      · unfold F6r; simp (disch := decide) only [mS_c, mS_k, mS_eq, mW_c, mW_eq]; exact ⟨0, by omega, rfl, rfl⟩
      · unfold G1r; simp (disch := decide) only [mS_c, mS_k, mS_eq, mW_c, mW_eq]; exact r.g1
      · unfold G2r; simp (disch := decide) only [mS_c, mS_k, mS_eq, mW_c, mW_eq]; exact fun j hj => ⟨j, hj, by rw [Fi_lt hj], by rw [Fi_lt hj]⟩
      · unfold G3r; simp (disch := decide) only [mS_c, mS_k, mS_eq, mW_c, mW_eq]; exact fun j hj => by rw [Fi_lt hj, Fi_lt hj]
      · unfold G4r; simp (disch := decide) only [mS_c, mS_k, mS_eq, mW_c, mW_eq]
        refine ⟨fun j hj => by rw [Fi_lt hj, Fi_lt hj], fun g hg => ⟨0, by omega, Fi_lt hg⟩, fun g h hg hh => ?_, fun g hg => ?_⟩
        · rw [Fi_lt hg, Fi_lt hh]
          show bb 0 h = bb 0 g
          rw [bb0, bb0]
        · rw [Fi_lt hg]
          exact bb0
      · unfold G5r; simp (disch := decide) only [mS_c, mS_k, mS_eq, mW_c, mW_eq]; exact r.g5
      · unfold Ppr; simp (disch := decide) only [mS_c, mS_k, mS_eq, mW_c, mW_eq]; exact r.pp
      · unfold Pmr; simp (disch := decide) only [mS_c, mS_k, mS_eq, mW_c, mW_eq]; exact Pm_0 (fun x hx => Fi_lt hx) (fun x hx => Fi_lt hx)
theorem c_copy {μ : Mm} {K : MV → Mm → Prop} {n a b : Nat} (hab : a ≠ b) (hn : n < 2 ^ 31) (hK : K mU (mW μ b (Fi (μ a) (μ b) n))) : s_X5_copy [mA n a, mA n b] μ K := by
  refine g_X5_copy ?_
  have lp : ∀ (d i : Nat), i + d = n → Tot e_X5_copy K 11 [mA n a, mA n b, mI (nI i)] [] (mW μ b (Fi (μ a) (μ b) i)) := by
    intro d
    induction d with
    | zero =>
      intro i hi
      have e : i = n := by omega
      subst e
      refine g_X5_copy_11 ?_
      rw [if_pos (nI_le (Nat.le_refl _) hn)]
      exact hK
    | succ d ih =>
      intro i hi
      refine g_X5_copy_11 ?_
      rw [if_neg (nI_ge (by omega) hn), if_neg (nI_ge (by omega) hn), nI_clamp (by omega), mW_c (c' := a) hab]
      refine ⟨vi_nI (by omega) hn, vi_nI (by omega) hn, ?_⟩
      have := ih (i + 1) (by omega)
      rw [← nI_1] at this
      rw [mW_st (f' := Fi (μ a) (μ b) (i + 1)) Fi_at (fun k hk => Fi_ne hk)]
      exact this
  have := lp n 0 (by omega)
  rw [Fi_0, mW_id rfl] at this
  exact this
theorem c_copyFrom {μ : Mm} {K : MV → Mm → Prop} {a b : Nat} (hab : a + 9 < b ∨ b + 9 < a) (hK : ∀ μ', (∀ c, ¬ (a ≤ c ∧ c ≤ a + 9) → μ' c = μ c) → vS μ' a = vS μ b → (∀ i, i < 6 → μ' (a + 4) i = μ (b + 4) i) → K mU μ') : s_X8_copyFrom [mO 7 a, mO 7 b] μ K := by
  refine g_X8_copyFrom ?_
  refine c_copy (by omega) (by decide) (c_copy (by omega) (by decide) (c_copy (by omega) (by decide) (c_copy (by omega) (by decide) (c_copy (by omega) (by decide) (g_X7_copyFrom (c_copy (by omega) (by decide) (c_copy (by omega) (by decide) (c_copy (by omega) (by decide) ?_))))))))
  simp (disch := omega) only [mS_c, mS_k, mS_eq, mW_c, mW_eq]
  refine hK _ (fun c hc => ?_) ?_ (fun i hi => ?_)
  · simp (disch := omega) only [mS_c, mW_c]
  · funext r i
    match r with
    | 0 =>
      match i with
      | 0 => show _ = μ b 0; unfold vS; simp (disch := omega) only [mS_c, mS_k, mS_eq, mW_c, mW_eq]
      | 1 => show _ = μ b 5; unfold vS; simp (disch := omega) only [mS_c, mS_k, mS_eq, mW_c, mW_eq]
      | 2 => show _ = μ b 1; unfold vS; simp (disch := omega) only [mS_c, mS_k, mS_eq, mW_c, mW_eq]
      | 3 => show _ = μ b 2; unfold vS; simp (disch := omega) only [mS_c, mS_k, mS_eq, mW_c, mW_eq]
      | 4 => show _ = μ b 3; unfold vS; simp (disch := omega) only [mS_c, mS_k, mS_eq, mW_c, mW_eq]
      | 5 => show _ = μ b 4; unfold vS; simp (disch := omega) only [mS_c, mS_k, mS_eq, mW_c, mW_eq]
      | 6 => show _ = μ (b + 6) 0; unfold vS; simp (disch := omega) only [mS_c, mS_k, mS_eq, mW_c, mW_eq]
      | i + 7 => rfl
    | 1 => exact congrFun (tr_eq (g := μ (b + 2)) fun j hj => by simp (disch := omega) only [mS_c, mS_k, mS_eq, mW_c, mW_eq, Fi_lt]) i
    | 2 => exact congrFun (tr_eq (g := μ (b + 1)) fun j hj => by simp (disch := omega) only [mS_c, mS_k, mS_eq, mW_c, mW_eq, Fi_lt]) i
    | 3 => exact congrFun (tr_eq (g := μ (b + 3)) fun j hj => by simp (disch := omega) only [mS_c, mS_k, mS_eq, mW_c, mW_eq, Fi_lt]) i
    | 4 => exact congrFun (tr_eq (g := μ (b + 5)) fun j hj => by simp (disch := omega) only [mS_c, mS_k, mS_eq, mW_c, mW_eq, Fi_lt]) i
    | 5 => exact congrFun (tr_eq (g := μ (b + 7)) fun j hj => by simp (disch := omega) only [mS_c, mS_k, mS_eq, mW_c, mW_eq, Fi_lt]) i
    | 6 => exact congrFun (tr_eq (g := μ (b + 8)) fun j hj => by simp (disch := omega) only [mS_c, mS_k, mS_eq, mW_c, mW_eq, Fi_lt]) i
    | 7 => exact congrFun (tr_eq (g := μ (b + 9)) fun j hj => by simp (disch := omega) only [mS_c, mS_k, mS_eq, mW_c, mW_eq, Fi_lt]) i
    | r + 8 => rfl
  · simp (disch := omega) only [mS_c, mS_k, mS_eq, mW_c, mW_eq, Fi_lt]
theorem c_tried {μ : Mm} {K : MV → Mm → Prop} (hK : ∀ μ', AgX μ μ' → vS μ' 13 = vS μ 3 → (∀ i, i < 6 → μ' 17 i = μ 7 i) → K (mO 7 13) μ') : s_X9_tried [mO 8 0] μ K := by
  refine g_X9_tried (c_copyFrom (by omega) fun μ' h1 h2 h3 => hK μ' (fun c k e => ?_) h2 h3)
  rw [h1 c (fun z => ?_)]
  unfold sXb at e
  have e1 : Nat.ble 13 c = true := Nat.ble_eq.mpr z.1
  have e2 : Nat.ble c 22 = true := Nat.ble_eq.mpr (by omega)
  rw [e1, e2] at e
  cases e
end
section
/-! ===== FARES that bring most, CLAQUE ===== -/
theorem vS_base {μ : Mm} {c : Nat} {x : Int32} : vS (mS μ c 1 x) c = mS (vS μ c) 0 2 x := by
  funext r i
  by_cases e : r = 0 ∧ i = 2
  · rw [e.1, e.2, mS_eq]
    show mS μ c 1 x c 1 = x
    exact mS_eq
  · rw [mS_ne e]
    match r with
    | 0 =>
      match i with
      | 0 => show mS μ c 1 x c 0 = μ c 0; exact mS_k (by decide)
      | 1 => show mS μ c 1 x c 5 = μ c 5; exact mS_k (by decide)
      | 2 => exact absurd ⟨rfl, rfl⟩ e
      | 3 => show mS μ c 1 x c 2 = μ c 2; exact mS_k (by decide)
      | 4 => show mS μ c 1 x c 3 = μ c 3; exact mS_k (by decide)
      | 5 => show mS μ c 1 x c 4 = μ c 4; exact mS_k (by decide)
      | 6 => show mS μ c 1 x (c + 6) 0 = μ (c + 6) 0; rw [mS_c (by omega)]
      | i + 7 => rfl
    | 1 => show tr 48 (mS μ c 1 x (c + 2)) i = tr 48 (μ (c + 2)) i; rw [mS_c (by omega)]
    | 2 => show tr 6 (mS μ c 1 x (c + 1)) i = tr 6 (μ (c + 1)) i; rw [mS_c (by omega)]
    | 3 => show tr 6 (mS μ c 1 x (c + 3)) i = tr 6 (μ (c + 3)) i; rw [mS_c (by omega)]
    | 4 => show tr 8 (mS μ c 1 x (c + 5)) i = tr 8 (μ (c + 5)) i; rw [mS_c (by omega)]
    | 5 => show tr 6 (mS μ c 1 x (c + 7)) i = tr 6 (μ (c + 7)) i; rw [mS_c (by omega)]
    | 6 => show tr 6 (mS μ c 1 x (c + 8)) i = tr 6 (μ (c + 8)) i; rw [mS_c (by omega)]
    | 7 => show tr 6 (mS μ c 1 x (c + 9)) i = tr 6 (μ (c + 9)) i; rw [mS_c (by omega)]
    | r + 8 => rfl
theorem vS_step {μ : Mm} {c : Nat} {x : Int32} : vS (mS μ c 2 x) c = mS (vS μ c) 0 3 x := by
  funext r i
  by_cases e : r = 0 ∧ i = 3
  · rw [e.1, e.2, mS_eq]
    show mS μ c 2 x c 2 = x
    exact mS_eq
  · rw [mS_ne e]
    match r with
    | 0 =>
      match i with
      | 0 => show mS μ c 2 x c 0 = μ c 0; exact mS_k (by decide)
      | 1 => show mS μ c 2 x c 5 = μ c 5; exact mS_k (by decide)
      | 2 => show mS μ c 2 x c 1 = μ c 1; exact mS_k (by decide)
      | 3 => exact absurd ⟨rfl, rfl⟩ e
      | 4 => show mS μ c 2 x c 3 = μ c 3; exact mS_k (by decide)
      | 5 => show mS μ c 2 x c 4 = μ c 4; exact mS_k (by decide)
      | 6 => show mS μ c 2 x (c + 6) 0 = μ (c + 6) 0; rw [mS_c (by omega)]
      | i + 7 => rfl
    | 1 => show tr 48 (mS μ c 2 x (c + 2)) i = tr 48 (μ (c + 2)) i; rw [mS_c (by omega)]
    | 2 => show tr 6 (mS μ c 2 x (c + 1)) i = tr 6 (μ (c + 1)) i; rw [mS_c (by omega)]
    | 3 => show tr 6 (mS μ c 2 x (c + 3)) i = tr 6 (μ (c + 3)) i; rw [mS_c (by omega)]
    | 4 => show tr 8 (mS μ c 2 x (c + 5)) i = tr 8 (μ (c + 5)) i; rw [mS_c (by omega)]
    | 5 => show tr 6 (mS μ c 2 x (c + 7)) i = tr 6 (μ (c + 7)) i; rw [mS_c (by omega)]
    | 6 => show tr 6 (mS μ c 2 x (c + 8)) i = tr 6 (μ (c + 8)) i; rw [mS_c (by omega)]
    | 7 => show tr 6 (mS μ c 2 x (c + 9)) i = tr 6 (μ (c + 9)) i; rw [mS_c (by omega)]
    | r + 8 => rfl
theorem vS_there {μ : Mm} {c : Nat} {x : Int32} : vS (mS μ c 4 x) c = mS (vS μ c) 0 5 x := by
  funext r i
  by_cases e : r = 0 ∧ i = 5
  · rw [e.1, e.2, mS_eq]
    show mS μ c 4 x c 4 = x
    exact mS_eq
  · rw [mS_ne e]
    match r with
    | 0 =>
      match i with
      | 0 => show mS μ c 4 x c 0 = μ c 0; exact mS_k (by decide)
      | 1 => show mS μ c 4 x c 5 = μ c 5; exact mS_k (by decide)
      | 2 => show mS μ c 4 x c 1 = μ c 1; exact mS_k (by decide)
      | 3 => show mS μ c 4 x c 2 = μ c 2; exact mS_k (by decide)
      | 4 => show mS μ c 4 x c 3 = μ c 3; exact mS_k (by decide)
      | 5 => exact absurd ⟨rfl, rfl⟩ e
      | 6 => show mS μ c 4 x (c + 6) 0 = μ (c + 6) 0; rw [mS_c (by omega)]
      | i + 7 => rfl
    | 1 => show tr 48 (mS μ c 4 x (c + 2)) i = tr 48 (μ (c + 2)) i; rw [mS_c (by omega)]
    | 2 => show tr 6 (mS μ c 4 x (c + 1)) i = tr 6 (μ (c + 1)) i; rw [mS_c (by omega)]
    | 3 => show tr 6 (mS μ c 4 x (c + 3)) i = tr 6 (μ (c + 3)) i; rw [mS_c (by omega)]
    | 4 => show tr 8 (mS μ c 4 x (c + 5)) i = tr 8 (μ (c + 5)) i; rw [mS_c (by omega)]
    | 5 => show tr 6 (mS μ c 4 x (c + 7)) i = tr 6 (μ (c + 7)) i; rw [mS_c (by omega)]
    | 6 => show tr 6 (mS μ c 4 x (c + 8)) i = tr 6 (μ (c + 8)) i; rw [mS_c (by omega)]
    | 7 => show tr 6 (mS μ c 4 x (c + 9)) i = tr 6 (μ (c + 9)) i; rw [mS_c (by omega)]
    | r + 8 => rfl
theorem vM_base {μ : Mm} {x : Int32} : vM (mS μ 55 2 x) = mS (vM μ) 0 2 x := by
  funext r i
  by_cases e : r = 0 ∧ i = 2
  · rw [e.1, e.2, mS_eq]
    show mS μ 55 2 x 55 2 = x
    exact mS_eq
  · rw [mS_ne e]
    match r with
    | 0 =>
      match i with
      | 0 => show mS μ 55 2 x 55 0 = μ 55 0; exact mS_k (by decide)
      | 1 => show mS μ 55 2 x 55 1 = μ 55 1; exact mS_k (by decide)
      | 2 => exact absurd ⟨rfl, rfl⟩ e
      | 3 => show mS μ 55 2 x 55 3 = μ 55 3; exact mS_k (by decide)
      | 4 => show mS μ 55 2 x 55 4 = μ 55 4; exact mS_k (by decide)
      | 5 => show mS μ 55 2 x 55 5 = μ 55 5; exact mS_k (by decide)
      | 6 => show mS μ 55 2 x 55 11 = μ 55 11; exact mS_k (by decide)
      | i + 7 => rfl
    | 1 => show tr 48 (mS μ 55 2 x 56) i = tr 48 (μ 56) i; rw [mS_c (by decide)]
    | 2 => show tr 6 (mS μ 55 2 x 57) i = tr 6 (μ 57) i; rw [mS_c (by decide)]
    | 3 => show tr 6 (mS μ 55 2 x 59) i = tr 6 (μ 59) i; rw [mS_c (by decide)]
    | 4 => show tr 8 (mS μ 55 2 x 60) i = tr 8 (μ 60) i; rw [mS_c (by decide)]
    | 5 => show tr 6 (fun i => mS μ 55 2 x 61 (3 * i)) i = tr 6 (fun i => μ 61 (3 * i)) i; rw [mS_c (by decide)]
    | 6 => show tr 6 (fun i => mS μ 55 2 x 61 (3 * i + 1)) i = tr 6 (fun i => μ 61 (3 * i + 1)) i; rw [mS_c (by decide)]
    | 7 => show tr 6 (fun i => mS μ 55 2 x 61 (3 * i + 2)) i = tr 6 (fun i => μ 61 (3 * i + 2)) i; rw [mS_c (by decide)]
    | r + 8 => rfl
theorem vM_step {μ : Mm} {x : Int32} : vM (mS μ 55 3 x) = mS (vM μ) 0 3 x := by
  funext r i
  by_cases e : r = 0 ∧ i = 3
  · rw [e.1, e.2, mS_eq]
    show mS μ 55 3 x 55 3 = x
    exact mS_eq
  · rw [mS_ne e]
    match r with
    | 0 =>
      match i with
      | 0 => show mS μ 55 3 x 55 0 = μ 55 0; exact mS_k (by decide)
      | 1 => show mS μ 55 3 x 55 1 = μ 55 1; exact mS_k (by decide)
      | 2 => show mS μ 55 3 x 55 2 = μ 55 2; exact mS_k (by decide)
      | 3 => exact absurd ⟨rfl, rfl⟩ e
      | 4 => show mS μ 55 3 x 55 4 = μ 55 4; exact mS_k (by decide)
      | 5 => show mS μ 55 3 x 55 5 = μ 55 5; exact mS_k (by decide)
      | 6 => show mS μ 55 3 x 55 11 = μ 55 11; exact mS_k (by decide)
      | i + 7 => rfl
    | 1 => show tr 48 (mS μ 55 3 x 56) i = tr 48 (μ 56) i; rw [mS_c (by decide)]
    | 2 => show tr 6 (mS μ 55 3 x 57) i = tr 6 (μ 57) i; rw [mS_c (by decide)]
    | 3 => show tr 6 (mS μ 55 3 x 59) i = tr 6 (μ 59) i; rw [mS_c (by decide)]
    | 4 => show tr 8 (mS μ 55 3 x 60) i = tr 8 (μ 60) i; rw [mS_c (by decide)]
    | 5 => show tr 6 (fun i => mS μ 55 3 x 61 (3 * i)) i = tr 6 (fun i => μ 61 (3 * i)) i; rw [mS_c (by decide)]
    | 6 => show tr 6 (fun i => mS μ 55 3 x 61 (3 * i + 1)) i = tr 6 (fun i => μ 61 (3 * i + 1)) i; rw [mS_c (by decide)]
    | 7 => show tr 6 (fun i => mS μ 55 3 x 61 (3 * i + 2)) i = tr 6 (fun i => μ 61 (3 * i + 2)) i; rw [mS_c (by decide)]
    | r + 8 => rfl
theorem vM_there {μ : Mm} {x : Int32} : vM (mS μ 55 5 x) = mS (vM μ) 0 5 x := by
  funext r i
  by_cases e : r = 0 ∧ i = 5
  · rw [e.1, e.2, mS_eq]
    show mS μ 55 5 x 55 5 = x
    exact mS_eq
  · rw [mS_ne e]
    match r with
    | 0 =>
      match i with
      | 0 => show mS μ 55 5 x 55 0 = μ 55 0; exact mS_k (by decide)
      | 1 => show mS μ 55 5 x 55 1 = μ 55 1; exact mS_k (by decide)
      | 2 => show mS μ 55 5 x 55 2 = μ 55 2; exact mS_k (by decide)
      | 3 => show mS μ 55 5 x 55 3 = μ 55 3; exact mS_k (by decide)
      | 4 => show mS μ 55 5 x 55 4 = μ 55 4; exact mS_k (by decide)
      | 5 => exact absurd ⟨rfl, rfl⟩ e
      | 6 => show mS μ 55 5 x 55 11 = μ 55 11; exact mS_k (by decide)
      | i + 7 => rfl
    | 1 => show tr 48 (mS μ 55 5 x 56) i = tr 48 (μ 56) i; rw [mS_c (by decide)]
    | 2 => show tr 6 (mS μ 55 5 x 57) i = tr 6 (μ 57) i; rw [mS_c (by decide)]
    | 3 => show tr 6 (mS μ 55 5 x 59) i = tr 6 (μ 59) i; rw [mS_c (by decide)]
    | 4 => show tr 8 (mS μ 55 5 x 60) i = tr 8 (μ 60) i; rw [mS_c (by decide)]
    | 5 => show tr 6 (fun i => mS μ 55 5 x 61 (3 * i)) i = tr 6 (fun i => μ 61 (3 * i)) i; rw [mS_c (by decide)]
    | 6 => show tr 6 (fun i => mS μ 55 5 x 61 (3 * i + 1)) i = tr 6 (fun i => μ 61 (3 * i + 1)) i; rw [mS_c (by decide)]
    | 7 => show tr 6 (fun i => mS μ 55 5 x 61 (3 * i + 2)) i = tr 6 (fun i => μ 61 (3 * i + 2)) i; rw [mS_c (by decide)]
    | r + 8 => rfl
/-- the first of the greatest -/
def amx (f : Nat → Int32) (m0 b0 : Int32) : Nat → Int32 × Int32
  | 0 => (m0, b0)
  | k + 1 => if f k ≤ (amx f m0 b0 k).1 then amx f m0 b0 k else (f k, nI k)
theorem amx_same {f : Nat → Int32} {m0 b0 m1 b1 : Int32} (h0 : ¬ f 0 ≤ m0) (h1 : ¬ f 0 ≤ m1) : ∀ (k : Nat), amx f m0 b0 (k + 1) = amx f m1 b1 (k + 1)
  | 0 => by
    show (if f 0 ≤ m0 then _ else _) = (if f 0 ≤ m1 then _ else _)
    rw [if_neg h0, if_neg h1]
  | k + 1 => by
    have ih := amx_same (b0 := b0) (b1 := b1) h0 h1 k
    show (if f (k + 1) ≤ (amx f m0 b0 (k + 1)).1 then amx f m0 b0 (k + 1) else _) = (if f (k + 1) ≤ (amx f m1 b1 (k + 1)).1 then amx f m1 b1 (k + 1) else _)
    rw [ih]
theorem fr_nn {b s e : Nat} (hb : b ≤ 30) (hs : s ≤ 9) (he : e ≤ 6) : ∃ t, t ≤ 400 ∧ fr (nI b) (nI s) e = nI t := by
  refine ⟨e * b + e * (e - 1) / 2 * s, ?_, ?_⟩
  · have h1 : e * b ≤ 6 * 30 := Nat.mul_le_mul he hb
    have h2 : ∀ e, e ≤ 6 → e * (e - 1) / 2 ≤ 15 := by decide
    have h3 : e * (e - 1) / 2 * s ≤ 15 * 9 := Nat.mul_le_mul (h2 e he) hs
    omega
  · unfold fr
    rw [nI_mul, nI_mul, nI_add]
theorem TK_nn {v : Vw} (hw : Wb v) {b s : Nat} (hb : b ≤ 30) (hs : s ≤ 9) (eb : v 0 2 = nI b) (es : v 0 3 = nI s) : ∃ t, t ≤ 3200 ∧ TK v = nI t := by
  have hp : ∀ g, ∃ t, t ≤ 400 ∧ payC v g = nI t := by
    intro g
    unfold payC
    cases cmB v (nI g) with
    | false => exact ⟨0, by omega, rfl⟩
    | true =>
      rw [cond_true]
      unfold pay
      rw [eb, es]
      exact fr_nn hb hs (Nat.le_trans LV_le hw.1.2.1)
  have : ∀ k, k ≤ 8 → ∃ t, t ≤ 400 * k ∧ sumN (payC v) k = nI t := by
    intro k
    induction k with
    | zero => intro _; exact ⟨0, by omega, rfl⟩
    | succ k ih =>
      intro hk
      obtain ⟨t, ht, e⟩ := ih (by omega)
      obtain ⟨u, hu, e2⟩ := hp k
      refine ⟨t + u, by omega, ?_⟩
      show sumN (payC v) k + payC v k = _
      rw [e, e2, nI_add]
  exact this 8 (by omega)
theorem nn_m1 {t : Nat} (h : t ≤ 3200) : ¬ nI t ≤ -1 := by
  intro z
  have := Int32.le_iff_toInt_le.mp z
  rw [nI_toInt (by omega), show (-1 : Int32).toInt = -1 by decide] at this
  omega
theorem nn_m6 {t : Nat} (h : t ≤ 3200) : ¬ nI t ≤ -6 := by
  intro z
  have := Int32.le_iff_toInt_le.mp z
  rw [nI_toInt (by omega), show (-6 : Int32).toInt = -6 by decide] at this
  omega
theorem dm10 : ∀ k, k < 310 → nI k / 10 = nI (k / 10) ∧ nI k - nI k / 10 * 10 = nI (k % 10) := by decide +kernel
def fv (v : Vw) (x y : Int32) : Vw := mS (mS v 0 2 x) 0 3 y
def FT (v : Vw) (k : Nat) : Int32 := TK (fv v (nI (k / 10)) (nI (k % 10)))
theorem fv_fv {v : Vw} {x y x' y' : Int32} : fv (fv v x y) x' y' = fv v x' y' := by
  unfold fv
  rw [mS_comm (c := 0) (k := 3) (c' := 0) (k' := 2) (by decide), mS_mS, mS_mS]
theorem fv_wb {v : Vw} {x y : Int32} (h : Wb v) : Wb (fv v x y) := h
theorem fares_end {f : Int32} {b : Int32} (hb : ∃ k, k < 310 ∧ b = nI k) : ¬ (10 : Int32) = 0 := by decide
theorem c_fares {μ : Mm} {K : MV → Mm → Prop} {v : Vw} {w : Int32} (hw : Wb v) (hv : vS μ 13 = v) (hK : ∀ μ', AgX μ μ' → K (mI (if w = 0 then (amx (FT v) (-1) 0 310).2 / 10 else if w = 1 then (amx (FT v) (-1) 0 310).2 - (amx (FT v) (-1) 0 310).2 / 10 * 10 else (amx (FT v) (-1) 0 310).1)) μ') : s_X4_faresForMost [mO 7 13, mI w] μ K := by
  refine g_X4_faresForMost ?_
  have lp : ∀ (d k : Nat) (z : MV) (μ' : Mm), k + d = 310 → AgX μ μ' → (∀ x y, fv (vS μ' 13) x y = fv v x y) → Tot e_X4_faresForMost K 7 [mO 7 13, mI w, mI (amx (FT v) (-1) 0 k).1, mI (amx (FT v) (-1) 0 k).2, mI (nI k), z] [] μ' := by
    intro d
    induction d with
    | zero =>
      intro k z μ' hk ha hq
      have e : k = 310 := by omega
      subst e
      refine g_X4_faresForMost_7 ?_
      rw [if_pos (show (310 : Int32) ≤ nI 310 from Int32.le_refl _)]
      have hK := hK μ' ha
      split
      · rename_i q; rw [if_pos q] at hK; exact ⟨by decide, hK⟩
      · rename_i q
        rw [if_neg q] at hK
        split
        · rename_i q2; rw [if_pos q2] at hK; exact ⟨by decide, hK⟩
        · rename_i q2; rw [if_neg q2] at hK; exact hK
    | succ d ih =>
      intro k z μ' hk ha hq
      refine g_X4_faresForMost_7 ?_
      rw [if_neg (show ¬ (310 : Int32) ≤ nI k from nI_ge (b := 310) (by omega) (by omega))]
      refine ⟨by decide, by decide, ?_⟩
      obtain ⟨d1, d2⟩ := dm10 k (by omega)
      rw [d2, d1]
      have ev : vS (mS (mS μ' 13 1 (nI (k / 10))) 13 2 (nI (k % 10))) 13 = fv v (nI (k / 10)) (nI (k % 10)) := by
        rw [vS_step, vS_base]
        exact hq _ _
      refine c_allPay (by rw [ev]; exact fv_wb hw) ?_
      rw [ev, vI_mI]
      have ha2 : AgX μ (mS (mS μ' 13 1 (nI (k / 10))) 13 2 (nI (k % 10))) := (ha.st rfl).st rfl
      have hq2 : ∀ x y, fv (vS (mS (mS μ' 13 1 (nI (k / 10))) 13 2 (nI (k % 10))) 13) x y = fv v x y := fun x y => by rw [ev, fv_fv]
      have hs : amx (FT v) (-1) 0 (k + 1) = if FT v k ≤ (amx (FT v) (-1) 0 k).1 then amx (FT v) (-1) 0 k else (FT v k, nI k) := rfl
      have hF : TK (fv v (nI (k / 10)) (nI (k % 10))) = FT v k := rfl
      rw [hF]
      split
      · rename_i q
        rw [if_pos q] at hs
        have := ih (k + 1) (mI (FT v k)) _ (by omega) ha2 hq2
        rw [hs, ← nI_1] at this
        exact this
      · rename_i q
        rw [if_neg q] at hs
        have := ih (k + 1) (mI (FT v k)) _ (by omega) ha2 hq2
        rw [hs, ← nI_1] at this
        exact this
  exact lp 310 0 mU μ rfl (AgX.rf μ) (fun x y => by rw [hv])
/-- but for the reference's scratch and two fares -/
def Ag3 (μ μ' : Mm) : Prop := ∀ c k, sMb c k = false → ¬ (c = 55 ∧ (k = 2 ∨ k = 3)) → μ' c k = μ c k
theorem d_fares {μ : Mm} {K : MV → Mm → Prop} {w : Int32} (hw : Wb (vM μ)) (hK : ∀ μ', AgM μ μ' → K (mI (if w = 0 then (amx (FT (vM μ)) (-6) 0 310).2 / 10 else if w = 1 then (amx (FT (vM μ)) (-6) 0 310).2 - (amx (FT (vM μ)) (-6) 0 310).2 / 10 * 10 else (amx (FT (vM μ)) (-6) 0 310).1)) μ') : Tot e_X10_fares K 32 [mO 9 55, mI w, mI (μ 55 2), mI (μ 55 3), mI (-6), mI 0, mI 0, mU] [] μ := by
  have lp : ∀ (d k : Nat) (z : MV) (μ' : Mm), k + d = 310 → Ag3 μ μ' → (∀ x y, fv (vM μ') x y = fv (vM μ) x y) → Tot e_X10_fares K 32 [mO 9 55, mI w, mI (μ 55 2), mI (μ 55 3), mI (amx (FT (vM μ)) (-6) 0 k).1, mI (amx (FT (vM μ)) (-6) 0 k).2, mI (nI k), z] [] μ' := by
    intro d
    induction d with
    | zero =>
      intro k z μ' hk ha hq
      have e : k = 310 := by omega
      subst e
      refine g_X10_fares_32 ?_
      rw [if_pos (show (310 : Int32) ≤ nI 310 from Int32.le_refl _)]
      have hK := hK (mS (mS μ' 55 2 (μ 55 2)) 55 3 (μ 55 3)) (fun c k e => by
        by_cases e3 : c = 55 ∧ k = 3
        · rw [e3.1, e3.2, mS_eq]
        · rw [mS_ne e3]
          by_cases e2 : c = 55 ∧ k = 2
          · rw [e2.1, e2.2, mS_eq]
          · rw [mS_ne e2]
            exact ha c k e (fun z => z.2.elim (fun y => e2 ⟨z.1, y⟩) (fun y => e3 ⟨z.1, y⟩)))
      split
      · rename_i q; rw [if_pos q] at hK; exact ⟨by decide, hK⟩
      · rename_i q
        rw [if_neg q] at hK
        split
        · rename_i q2; rw [if_pos q2] at hK; exact ⟨by decide, hK⟩
        · rename_i q2; rw [if_neg q2] at hK; exact hK
    | succ d ih =>
      intro k z μ' hk ha hq
      refine g_X10_fares_32 ?_
      rw [if_neg (show ¬ (310 : Int32) ≤ nI k from nI_ge (b := 310) (by omega) (by omega))]
      refine ⟨by decide, by decide, ?_⟩
      obtain ⟨d1, d2⟩ := dm10 k (by omega)
      rw [d2, d1]
      have ev : vM (mS (mS μ' 55 2 (nI (k / 10))) 55 3 (nI (k % 10))) = fv (vM μ) (nI (k / 10)) (nI (k % 10)) := by
        rw [vM_step, vM_base]
        exact hq _ _
      refine d_allTakings (by rw [ev]; exact fv_wb hw) (by rw [ev]; exact ⟨k % 10, by omega, rfl⟩) fun μ2 ha2 => ?_
      rw [ev, vI_mI]
      have ha3 : Ag3 μ μ2 := fun c k e hne => by
        rw [ha2 c k e, mS_ne (fun z => hne ⟨z.1, Or.inr z.2⟩), mS_ne (fun z => hne ⟨z.1, Or.inl z.2⟩)]
        exact ha c k e hne
      have hq2 : ∀ x y, fv (vM μ2) x y = fv (vM μ) x y := fun x y => by rw [ha2.vM, ev, fv_fv]
      have hs : amx (FT (vM μ)) (-6) 0 (k + 1) = if FT (vM μ) k ≤ (amx (FT (vM μ)) (-6) 0 k).1 then amx (FT (vM μ)) (-6) 0 k else (FT (vM μ) k, nI k) := rfl
      have hF : TK (fv (vM μ) (nI (k / 10)) (nI (k % 10))) = FT (vM μ) k := rfl
      rw [hF]
      split
      · rename_i q
        rw [if_pos q] at hs
        have := ih (k + 1) (mI (FT (vM μ) k)) _ (by omega) ha3 hq2
        rw [hs, ← nI_1] at this
        exact this
      · rename_i q
        rw [if_neg q] at hs
        have := ih (k + 1) (mI (FT (vM μ) k)) _ (by omega) ha3 hq2
        rw [hs, ← nI_1] at this
        exact this
  exact lp 310 0 mU μ rfl (fun _ _ _ _ => rfl) (fun _ _ => rfl)
theorem call_fares {μ : Mm} (r : Rl μ) (a : Int32) : s_X9_fares [mO 8 0, mI a] μ (fun v1 μ1 => s_X10_fares [mO 9 55, mI a] μ1 (fun v2 μ2 => Gd v1 v2 μ2)) := by
  refine g_X9_fares (c_within ?_)
  rw [vI_mI, ite_b]
  cases hd : decide (0 ≤ a ∧ a ≤ 2) with
  | false =>
    refine g_X10_fares (d_in ?_)
    rw [vI_mI, ite_b, hd]
    exact ⟨rfl, r⟩
  | true =>
    rw [cond_true]
    refine c_tried fun μ1 ha1 hv1 _ => ?_
    refine c_fares (v := vM μ) r.wb (by rw [hv1, r.v]) fun μ2 ha2 => ?_
    have r2 : Rl μ2 := (ha1.tr ha2).Rl r
    have ev : vM μ2 = vM μ := by
      have ha := ha1.tr ha2
      exact vM_congr (fun k _ => ha 55 k rfl) (ha 55 11 rfl) (ha.cell fun _ => rfl) (ha.cell fun _ => rfl) (ha.cell fun _ => rfl) (ha.cell fun _ => rfl) (ha.cell fun _ => rfl)
    refine g_X10_fares (d_in ?_)
    rw [vI_mI, ite_b, hd, cond_true]
    refine d_fares r2.wb fun μ3 ha3 => ⟨?_, ha3.Rl r2⟩
    obtain ⟨t, ht, et⟩ : ∃ t, t ≤ 3200 ∧ FT (vM μ) 0 = nI t := TK_nn (v := fv (vM μ) (nI 0) (nI 0)) (fv_wb r.wb) (b := 0) (s := 0) (by omega) (by omega) rfl rfl
    rw [ev, vI_mI, amx_same (f := FT (vM μ)) (m0 := -1) (m1 := -6) (b0 := 0) (b1 := 0) (by rw [et]; exact nn_m1 ht) (by rw [et]; exact nn_m6 ht) 309]
end
section
/-! ===== CLAQUE ===== -/
def Cl (a : Nat) (x : Int32) (f : Nat → Int32) (i : Nat) : Nat → Int32 := fun k => if k % 6 = a ∧ k / 6 < i then f k + x else f k
theorem Cl_0 {a : Nat} {x : Int32} {f : Nat → Int32} : Cl a x f 0 = f := by
  funext k
  unfold Cl
  rw [if_neg (by omega)]
theorem Cl_at {a i : Nat} {x : Int32} {f : Nat → Int32} (ha : a < 6) : Cl a x f (i + 1) (6 * i + a) = f (6 * i + a) + x := by
  unfold Cl
  rw [if_pos (by omega)]
theorem Cl_get {a i : Nat} {x : Int32} {f : Nat → Int32} (ha : a < 6) : Cl a x f i (6 * i + a) = f (6 * i + a) := by
  unfold Cl
  rw [if_neg (by omega)]
theorem Cl_ne {a i k : Nat} {x : Int32} {f : Nat → Int32} (ha : a < 6) (h : k ≠ 6 * i + a) : Cl a x f (i + 1) k = Cl a x f i k := by
  unfold Cl
  by_cases e : k % 6 = a ∧ k / 6 < i
  · rw [if_pos e, if_pos (by omega)]
  · rw [if_neg e, if_neg (by omega)]
theorem Cl_back {a : Nat} {x : Int32} {f : Nat → Int32} : Cl a (-x) (Cl a x f 8) 8 = f := by
  funext k
  unfold Cl
  by_cases e : k % 6 = a ∧ k / 6 < 8
  · rw [if_pos e, if_pos e]
    grind
  · rw [if_neg e, if_neg e]
theorem c_weep {μ : Mm} {K : MV → Mm → Prop} {c a : Nat} {x : Int32} (ha : a < 6) (hK : K mU (mW μ (c + 2) (Cl a x (μ (c + 2)) 8))) : s_X4_weepAt [mO 7 c, mI (nI a), mI x] μ K := by
  refine g_X4_weepAt ?_
  have lp : ∀ (d i : Nat), i + d = 8 → Tot e_X4_weepAt K 2 [mO 7 c, mI (nI a), mI x, mI (nI i)] [] (mW μ (c + 2) (Cl a x (μ (c + 2)) i)) := by
    intro d
    induction d with
    | zero =>
      intro i hi
      have e : i = 8 := by omega
      subst e
      refine g_X4_weepAt_2 ?_
      rw [if_pos (by decide)]
      exact hK
    | succ d ih =>
      intro i hi
      refine g_X4_weepAt_2 ?_
      rw [if_neg (show ¬ (8 : Int32) ≤ nI i from nI_ge (b := 8) (by omega) (by omega))]
      refine g_X8_worthTo ?_
      rw [lit6']
      refine c_at (by omega) (by decide) (g_X8_putWorth ?_)
      rw [lit6', mW_eq, Cl_get ha, vI_mI, vI_mI]
      refine c_put (by omega) (by decide) ?_
      have := ih (i + 1) (by omega)
      rw [← nI_1] at this
      rw [mW_st (f' := Cl a x (μ (c + 2)) (i + 1)) (Cl_at ha) (fun k hk => Cl_ne ha hk)]
      exact this
  have := lp 8 0 rfl
  rw [Cl_0, mW_id rfl] at this
  exact this
theorem d_raise {μ : Mm} {K : MV → Mm → Prop} {a : Nat} {x : Int32} (ha : a < 6) (hK : K mU (mW μ 56 (Cl a x (μ 56) 8))) : s_X10_raise [mO 9 55, mI (nI a), mI x] μ K := by
  refine g_X10_raise ?_
  have lp : ∀ (d i : Nat), i + d = 8 → Tot e_X10_raise K 2 [mO 9 55, mI (nI a), mI x, mI (nI i)] [] (mW μ 56 (Cl a x (μ 56) i)) := by
    intro d
    induction d with
    | zero =>
      intro i hi
      have e : i = 8 := by omega
      subst e
      refine g_X10_raise_2 ?_
      rw [if_pos (by decide)]
      exact hK
    | succ d ih =>
      intro i hi
      refine g_X10_raise_2 ?_
      have hv : vi (nI (6 * i + a)) 48 := vi_nI (by omega) (by decide)
      rw [if_neg (show ¬ (8 : Int32) ≤ nI i from nI_ge (b := 8) (by omega) (by omega)), lit6, nI_clamp (by omega), mW_eq, Cl_get ha]
      refine ⟨hv, hv, ?_⟩
      have := ih (i + 1) (by omega)
      rw [← nI_1] at this
      rw [mW_st (f' := Cl a x (μ 56) (i + 1)) (Cl_at ha) (fun k hk => Cl_ne ha hk)]
      exact this
  have := lp 8 0 rfl
  rw [Cl_0, mW_id rfl] at this
  exact this
/-- a view with one act worth more to all -/
def clv (v : Vw) (a : Nat) (x : Int32) : Vw := fun r => if r = 1 then tr 48 (Cl a x (v 1) 8) else v r
theorem Cl_tr {a : Nat} {x : Int32} {f : Nat → Int32} : tr 48 (Cl a x f 8) = tr 48 (Cl a x (tr 48 f) 8) := tr_eq fun i hi => by
  unfold Cl
  rw [tr_at hi]
theorem vS_cl {μ : Mm} {c a : Nat} {x : Int32} : vS (mW μ (c + 2) (Cl a x (μ (c + 2)) 8)) c = clv (vS μ c) a x := by
  funext r i
  by_cases e : r = 1
  · subst e
    show tr 48 (mW μ (c + 2) (Cl a x (μ (c + 2)) 8) (c + 2)) i = tr 48 (Cl a x (tr 48 (μ (c + 2))) 8) i
    rw [mW_eq, Cl_tr]
  · unfold clv
    rw [if_neg e]
    match r with
    | 0 =>
      have h0 : mW μ (c + 2) (Cl a x (μ (c + 2)) 8) c = μ c := mW_c (by omega)
      have h6 : mW μ (c + 2) (Cl a x (μ (c + 2)) 8) (c + 6) = μ (c + 6) := mW_c (by omega)
      unfold vS
      simp only [h0, h6]
    | 1 => exact absurd rfl e
    | 2 => show tr 6 (mW μ (c + 2) _ (c + 1)) i = tr 6 (μ (c + 1)) i; rw [mW_c (by omega)]
    | 3 => show tr 6 (mW μ (c + 2) _ (c + 3)) i = tr 6 (μ (c + 3)) i; rw [mW_c (by omega)]
    | 4 => show tr 8 (mW μ (c + 2) _ (c + 5)) i = tr 8 (μ (c + 5)) i; rw [mW_c (by omega)]
    | 5 => show tr 6 (mW μ (c + 2) _ (c + 7)) i = tr 6 (μ (c + 7)) i; rw [mW_c (by omega)]
    | 6 => show tr 6 (mW μ (c + 2) _ (c + 8)) i = tr 6 (μ (c + 8)) i; rw [mW_c (by omega)]
    | 7 => show tr 6 (mW μ (c + 2) _ (c + 9)) i = tr 6 (μ (c + 9)) i; rw [mW_c (by omega)]
    | r + 8 => rfl
theorem vM_cl {μ : Mm} {a : Nat} {x : Int32} : vM (mW μ 56 (Cl a x (μ 56) 8)) = clv (vM μ) a x := by
  have h55 : mW μ 56 (Cl a x (μ 56) 8) 55 = μ 55 := mW_c (by decide)
  have h57 : mW μ 56 (Cl a x (μ 56) 8) 57 = μ 57 := mW_c (by decide)
  have h59 : mW μ 56 (Cl a x (μ 56) 8) 59 = μ 59 := mW_c (by decide)
  have h60 : mW μ 56 (Cl a x (μ 56) 8) 60 = μ 60 := mW_c (by decide)
  have h61 : mW μ 56 (Cl a x (μ 56) 8) 61 = μ 61 := mW_c (by decide)
  funext r
  by_cases e : r = 1
  · subst e
    show tr 48 (mW μ 56 (Cl a x (μ 56) 8) 56) = tr 48 (Cl a x (tr 48 (μ 56)) 8)
    rw [mW_eq, Cl_tr]
  · unfold clv
    rw [if_neg e]
    match r with
    | 0 => unfold vM; simp only [h55]
    | 1 => exact absurd rfl e
    | 2 => unfold vM; simp only [h57]
    | 3 => unfold vM; simp only [h59]
    | 4 => unfold vM; simp only [h60]
    | 5 => unfold vM; simp only [h61]
    | 6 => unfold vM; simp only [h61]
    | 7 => unfold vM; simp only [h61]
    | r + 8 => rfl
def CT (v : Vw) (x : Int32) (a : Nat) : Int32 := TK (clv v a x)
theorem clv_wb {v : Vw} {a : Nat} {x : Int32} (h : Wb v) : Wb (clv v a x) := h
theorem c_claque {μ : Mm} {K : MV → Mm → Prop} {v : Vw} {x w : Int32} (hw : Wb v) (hv : vS μ 13 = v) (hK : K (mI (if w = 0 then (amx (CT v x) (-1) 0 (nA v)).2 else (amx (CT v x) (-1) 0 (nA v)).1)) μ) : s_X4_actForClaque [mO 7 13, mI x, mI w] μ K := by
  refine g_X4_actForClaque ?_
  have hn : μ 13 0 = nI (nA v) := by rw [← hv] at hw ⊢; exact hw.1.2.2
  have h6 := hw.1.2.1
  have lp : ∀ (d k : Nat) (z : MV), k + d = nA v → Tot e_X4_actForClaque K 8 [mO 7 13, mI x, mI w, mI (amx (CT v x) (-1) 0 k).1, mI (amx (CT v x) (-1) 0 k).2, mI (nI k), z] [] μ := by
    intro d
    induction d with
    | zero =>
      intro k z hk
      have e : k = nA v := by omega
      refine g_X4_actForClaque_8 ?_
      rw [hn, if_pos (by rw [e]; exact nI_le (Nat.le_refl _) (by omega)), e]
      split
      · rename_i q; rw [if_pos q] at hK; exact hK
      · rename_i q; rw [if_neg q] at hK; exact hK
    | succ d ih =>
      intro k z hk
      refine g_X4_actForClaque_8 ?_
      rw [hn, if_neg (nI_ge (by omega) (by omega))]
      refine c_weep (c := 13) (by omega) ?_
      have ev : vS (mW μ (13 + 2) (Cl k x (μ (13 + 2)) 8)) 13 = clv v k x := by rw [vS_cl, hv]
      refine c_allPay (by rw [ev]; exact clv_wb hw) ?_
      refine c_weep (c := 13) (by omega) ?_
      rw [mW_mW, mW_eq, Cl_back, mW_id rfl, ev, vI_mI]
      have hs : amx (CT v x) (-1) 0 (k + 1) = if CT v x k ≤ (amx (CT v x) (-1) 0 k).1 then amx (CT v x) (-1) 0 k else (CT v x k, nI k) := rfl
      have hF : TK (clv v k x) = CT v x k := rfl
      rw [hF]
      split
      · rename_i q
        rw [if_pos q] at hs
        have := ih (k + 1) (mI (CT v x k)) (by omega)
        rw [hs, ← nI_1] at this
        exact this
      · rename_i q
        rw [if_neg q] at hs
        have := ih (k + 1) (mI (CT v x k)) (by omega)
        rw [hs, ← nI_1] at this
        exact this
  exact lp (nA v) 0 mU (by omega)
theorem d_claque {μ : Mm} {K : MV → Mm → Prop} {x w : Int32} (hw : Wb (vM μ)) (h9 : W9 (vM μ)) (hK : ∀ μ', AgM μ μ' → K (mI (if w = 0 then (amx (CT (vM μ) x) (-6) (-6) (nA (vM μ))).2 else (amx (CT (vM μ) x) (-6) (-6) (nA (vM μ))).1)) μ') : Tot e_X10_claque K 32 [mO 9 55, mI x, mI w, mI (-6), mI (-6), mI 0, mU] [] μ := by
  have hn : μ 55 0 = nI (nA (vM μ)) := hw.1.2.2
  have h6 := hw.1.2.1
  have lp : ∀ (d k : Nat) (z : MV) (μ' : Mm), k + d = nA (vM μ) → AgM μ μ' → Tot e_X10_claque K 32 [mO 9 55, mI x, mI w, mI (amx (CT (vM μ) x) (-6) (-6) k).1, mI (amx (CT (vM μ) x) (-6) (-6) k).2, mI (nI k), z] [] μ' := by
    intro d
    induction d with
    | zero =>
      intro k z μ' hk ha
      have e : k = nA (vM μ) := by omega
      refine g_X10_claque_32 ?_
      rw [ha 55 0 rfl, hn, if_pos (by rw [e]; exact nI_le (Nat.le_refl _) (by omega)), e]
      have hK := hK μ' ha
      split
      · rename_i q; rw [if_pos q] at hK; exact hK
      · rename_i q; rw [if_neg q] at hK; exact hK
    | succ d ih =>
      intro k z μ' hk ha
      refine g_X10_claque_32 ?_
      rw [ha 55 0 rfl, hn, if_neg (nI_ge (by omega) (by omega))]
      refine d_raise (by omega) ?_
      have ev : vM (mW μ' 56 (Cl k x (μ' 56) 8)) = clv (vM μ) k x := by rw [vM_cl, ha.vM]
      refine d_allTakings (by rw [ev]; exact clv_wb hw) (by rw [ev]; exact h9) fun μ2 ha2 => ?_
      refine d_raise (by omega) ?_
      have e56 : μ2 56 = Cl k x (μ' 56) 8 := (ha2.cell fun _ => rfl).trans mW_eq
      rw [e56, Cl_back, ev, vI_mI]
      have ha3 : AgM μ (mW μ2 56 (μ' 56)) := fun c i e => by
        by_cases ec : c = 56
        · rw [ec, mW_eq]
          exact ha 56 i rfl
        · rw [mW_c ec, ha2 c i e, mW_c ec]
          exact ha c i e
      have hs : amx (CT (vM μ) x) (-6) (-6) (k + 1) = if CT (vM μ) x k ≤ (amx (CT (vM μ) x) (-6) (-6) k).1 then amx (CT (vM μ) x) (-6) (-6) k else (CT (vM μ) x k, nI k) := rfl
      have hF : TK (clv (vM μ) k x) = CT (vM μ) x k := rfl
      rw [hF]
      split
      · rename_i q
        rw [if_pos q] at hs
        have := ih (k + 1) (mI (CT (vM μ) x k)) _ (by omega) ha3
        rw [hs, ← nI_1] at this
        exact this
      · rename_i q
        rw [if_neg q] at hs
        have := ih (k + 1) (mI (CT (vM μ) x k)) _ (by omega) ha3
        rw [hs, ← nI_1] at this
        exact this
  exact lp (nA (vM μ)) 0 mU μ (by omega) (AgM.rf μ)
theorem AgX.vM {μ μ' : Mm} (ha : AgX μ μ') : vM μ' = vM μ := vM_congr (fun k _ => ha 55 k rfl) (ha 55 11 rfl) (ha.cell fun _ => rfl) (ha.cell fun _ => rfl) (ha.cell fun _ => rfl) (ha.cell fun _ => rfl) (ha.cell fun _ => rfl)
theorem call_claque {μ : Mm} (r : Rl μ) (a b : Int32) : s_X9_claque [mO 8 0, mI a, mI b] μ (fun v1 μ1 => s_X10_claque [mO 9 55, mI a, mI b] μ1 (fun v2 μ2 => Gd v1 v2 μ2)) := by
  have no : (decide (1 ≤ a ∧ a ≤ 25) = false ∨ decide (0 ≤ b ∧ b ≤ 1) = false) → s_X10_claque [mO 9 55, mI a, mI b] μ (fun v2 μ2 => Gd (mI (-2)) v2 μ2) := by
    intro h
    refine g_X10_claque (d_in ?_)
    rw [vI_mI, ite_b]
    cases ha : decide (1 ≤ a ∧ a ≤ 25) with
    | false => exact ⟨rfl, r⟩
    | true =>
      rw [cond_true]
      refine d_in ?_
      rw [vI_mI, ite_b, h.resolve_left (by rw [ha]; decide)]
      exact ⟨rfl, r⟩
  refine g_X9_claque (c_within ?_)
  rw [vI_mI, ite_b]
  cases ha : decide (1 ≤ a ∧ a ≤ 25) with
  | false => exact no (Or.inl ha)
  | true =>
    rw [cond_true]
    refine c_within ?_
    rw [vI_mI, ite_b]
    cases hb : decide (0 ≤ b ∧ b ≤ 1) with
    | false => exact no (Or.inr hb)
    | true =>
      rw [cond_true]
      refine c_tried fun μ1 ha1 hv1 _ => ?_
      refine c_claque (v := vM μ) r.wb (by rw [hv1, r.v]) ?_
      have r2 : Rl μ1 := ha1.Rl r
      refine g_X10_claque (d_in ?_)
      rw [vI_mI, ite_b, ha, cond_true]
      refine d_in ?_
      rw [vI_mI, ite_b, hb, cond_true]
      refine d_claque r2.wb r2.w9 fun μ3 ha3 => ⟨?_, ha3.Rl r2⟩
      obtain ⟨bb, hbb, -, eb⟩ := r.f2
      obtain ⟨ss, hss, -, es⟩ := r.f3
      obtain ⟨t, ht, et⟩ : ∃ t, t ≤ 3200 ∧ CT (vM μ) a 0 = nI t := TK_nn (v := clv (vM μ) 0 a) (clv_wb r.wb) hbb hss eb es
      obtain ⟨m, hm⟩ : ∃ m, nA (vM μ) = m + 1 := ⟨nA (vM μ) - 1, by have := r.n1; omega⟩
      rw [ha1.vM, vI_mI, hm, amx_same (f := CT (vM μ) a) (m0 := -1) (m1 := -6) (b0 := 0) (b1 := -6) (by rw [et]; exact nn_m1 ht) (by rw [et]; exact nn_m6 ht) m]
end
section
/-! ===== payments; a YEAR ===== -/
def oMb (c k : Nat) : Bool := Nat.beq c 55 && Nat.beq k 15
/-- memory agrees but for one number of the reference's -/
def AgO (μ μ' : Mm) : Prop := ∀ c k, oMb c k = false → μ' c k = μ c k
theorem AgO.rf (μ : Mm) : AgO μ μ := fun _ _ _ => rfl
theorem AgO.tr {μ μ' μ'' : Mm} (h : AgO μ μ') (h' : AgO μ' μ'') : AgO μ μ'' := fun c k e => (h' c k e).trans (h c k e)
theorem AgO.st {μ μ' : Mm} (h : AgO μ μ') {c k : Nat} {x : Int32} (e : oMb c k = true) : AgO μ (mS μ' c k x) := fun c' k' e' => by
  rw [mS_ne (fun z => by rw [z.1, z.2, e] at e'; cases e')]
  exact h c' k' e'
theorem AgO.cell {μ μ' : Mm} (h : AgO μ μ') {c : Nat} (e : ∀ k, oMb c k = false) : μ' c = μ c := funext fun k => h c k (e k)
theorem AgO.M {μ μ' : Mm} (h : AgO μ μ') : AgM μ μ' := fun c k e => h c k (by
  cases ho : oMb c k with
  | false => rfl
  | true =>
    unfold oMb at ho
    simp only [Bool.and_eq_true] at ho
    rw [Nat.eq_of_beq_eq_true ho.1, Nat.eq_of_beq_eq_true ho.2] at e
    cases e)
theorem AgO.vM {μ μ' : Mm} (h : AgO μ μ') : vM μ' = vM μ := h.M.vM
section OT
variable {μ : Mm} {K : MV → Mm → Prop}
theorem d_leavesAtO (hw : Wb (vM μ)) (hs : W9 (vM μ)) {g : Nat} (hg : g < 8) (h : ∀ μ', AgO μ μ' → μ' 55 15 = OWN (vM μ) g → K (mI (nI (LV (vM μ) g))) μ') : s_X10_leavesAt [mO 9 55, mI (nI g)] μ K := by
  refine g_X10_leavesAt ?_
  have hn : μ 55 0 = nI (nA (vM μ)) := hw.1.2.2
  have h6 := hw.1.2.1
  have lp : ∀ (d k : Nat) (z : MV) (μ' : Mm), k + d = nA (vM μ) → AgO μ μ' → μ' 55 15 = (lv (vM μ) g k).2 →
      Tot e_X10_leavesAt K 12 [mO 9 55, mI (nI g), mI (nI (lv (vM μ) g k).1), mI (sw (vM μ) g k), mI (nI (k + 1)), z] [] μ' := by
    intro d
    induction d with
    | zero =>
      intro k z μ' hk ha ho
      refine g_X10_leavesAt_12 ?_
      have e : k = nA (vM μ) := by omega
      rw [ha 55 0 rfl, hn, if_pos (nI_lt (by omega) (by omega))]
      rw [e] at ho ⊢
      exact h μ' ha ho
    | succ d ih =>
      intro k z μ' hk ha ho
      refine g_X10_leavesAt_12 ?_
      obtain ⟨w1, w2, w3⟩ := wbM_wp hw hg (j := k) (by omega)
      have e1 : nI (k + 1) - 1 = nI k := nI_pred k
      have e57 : μ' 57 = μ 57 := ha.cell (fun _ => rfl)
      have e56 : μ' 56 = μ 56 := ha.cell (fun _ => rfl)
      have ex : 6 * nI g + nI (oA (vM μ) k) = nI (6 * g + oA (vM μ) k) := by
        rw [show (6 : Int32) * nI g = nI 6 * nI g from rfl, nI_mul, nI_add]
      rw [if_neg (by rw [ha 55 0 rfl, hn]; exact nI_nlt (by omega) (by omega)), e1, nI_clamp (by omega), e57, w3, ex, nI_clamp (by omega), e56, ← w2]
      refine ⟨vi_nI (by omega) (by decide), vi_nI w1 (by decide), ?_⟩
      have hv : vM μ' = vM μ := ha.vM
      refine d_faresOf (by rw [hv]; exact hs) (by omega) ?_
      rw [vI_mI, ho, ha 55 0 rfl, ha 55 2 rfl, ha 55 3 rfl, ha 55 4 rfl]
      have es : sw (vM μ) g k + wp (vM μ) g k = sw (vM μ) g (k + 1) := rfl
      rw [es]
      have hl : lv (vM μ) g (k + 1) = if (lv (vM μ) g k).2 < sw (vM μ) g (k + 1) - fr (μ 55 2) (μ 55 3) (k + 1) ∧ (μ 55 4 = 0 ∨ k + 1 = nA (vM μ)) then (k + 1, sw (vM μ) g (k + 1) - fr (μ 55 2) (μ 55 3) (k + 1)) else lv (vM μ) g k := rfl
      have hlaw : (nI (k + 1) = μ 55 0) ↔ k + 1 = nA (vM μ) := by
        rw [hn, nI_eq (by omega) (by omega)]
      have no : ∀ y : MV, ¬ ((lv (vM μ) g k).2 < sw (vM μ) g (k + 1) - fr (μ 55 2) (μ 55 3) (k + 1) ∧ (μ 55 4 = 0 ∨ k + 1 = nA (vM μ))) → Tot e_X10_leavesAt K 12 [mO 9 55, mI (nI g), mI (nI (lv (vM μ) g k).1), mI (sw (vM μ) g (k + 1)), mI (nI (k + 1) + 1), y] [] μ' := fun y hno => by
        have := ih (k + 1) y μ' (by omega) ha (by rw [hl, if_neg hno]; exact ho)
        rw [hl, if_neg hno, ← nI_1] at this
        exact this
      have yes : ∀ y : MV, ((lv (vM μ) g k).2 < sw (vM μ) g (k + 1) - fr (μ 55 2) (μ 55 3) (k + 1) ∧ (μ 55 4 = 0 ∨ k + 1 = nA (vM μ))) → Tot e_X10_leavesAt K 12 [mO 9 55, mI (nI g), mI (nI (k + 1)), mI (sw (vM μ) g (k + 1)), mI (nI (k + 1) + 1), y] [] (mS μ' 55 15 (sw (vM μ) g (k + 1) - fr (μ 55 2) (μ 55 3) (k + 1))) := fun y hyes => by
        have := ih (k + 1) y (mS μ' 55 15 (sw (vM μ) g (k + 1) - fr (μ 55 2) (μ 55 3) (k + 1))) (by omega) (ha.st rfl) (by rw [mS_eq, hl, if_pos hyes])
        rw [hl, if_pos hyes, ← nI_1 (k + 1)] at this
        exact this
      split
      · rename_i q
        exact no _ (fun z => absurd z.1 (i_not_lt_of_le q))
      · rename_i q
        have q := i_lt_of_not_le q
        split
        · rename_i q2
          exact yes _ ⟨q, Or.inl q2⟩
        · rename_i q2
          split
          · rename_i q3
            exact yes _ ⟨q, Or.inr (hlaw.mp q3)⟩
          · rename_i q3
            exact no _ (fun z => z.2.elim q2 (fun z => q3 (hlaw.mpr z)))
  have := lp (nA (vM μ)) 0 mU (mS μ 55 15 0) (by omega) ((AgO.rf μ).st rfl) mS_eq
  exact this
theorem d_paysOfO (hw : Wb (vM μ)) (hs : W9 (vM μ)) {g : Nat} (hg : g < 8) (h : ∀ μ', AgO μ μ' → K (mI (pay (vM μ) g)) μ') : s_X10_paysOf [mO 9 55, mI (nI g)] μ K := by
  refine g_X10_paysOf (d_leavesAtO hw hs hg fun μ' ha ho => ?_)
  rw [vI_mI]
  refine d_faresOf (by rw [ha.vM]; exact hs) (Nat.le_trans LV_le hw.1.2.1) ?_
  rw [ha 55 3 rfl]
  exact h μ' ha
end OT
theorem shr_and (x y s : Int32) : (x &&& y) >>> s = (x >>> s) &&& (y >>> s) := by
  apply Int32.toBitVec_inj.mp
  rw [Int32.toBitVec_and, Int32.toBitVec_shiftRight, Int32.toBitVec_shiftRight, Int32.toBitVec_shiftRight, Int32.toBitVec_and]
  exact BitVec.sshiftRight_and_distrib _ _ _
theorem bb_and (x y : Int32) (k : Nat) : bb (x &&& y) k = (bb x k && bb y k) := by
  unfold bb
  rw [shr_and]
  generalize x >>> (nI k &&& 31) = a
  generalize y >>> (nI k &&& 31) = b
  have e : (a &&& b) &&& 1 = (a &&& 1) &&& (b &&& 1) := by
    apply Int32.toBitVec_inj.mp
    simp only [Int32.toBitVec_and]
    ext i hi
    simp only [BitVec.getElem_and]
    cases a.toBitVec[i] <;> cases b.toBitVec[i] <;> cases (Int32.toBitVec 1)[i] <;> rfl
  rw [e]
  rcases and1 a with h1 | h1 <;> rcases and1 b with h2 | h2 <;> (rw [h1, h2]; decide)
/-- what a set of guests pays -/
def PB (p : Nat → Int32) (x : Int32) (k : Nat) : Int32 := sumN (fun g => bif bb x g then p g else 0) k
theorem PB_come {v : Vw} {x : Int32} : PB (payC v) (x &&& v 0 1) 8 = PB (payC v) x 8 := sumN_congr 8 fun g hg => by
  rw [bb_and]
  have hc : cmB v (nI g) = bb (v 0 1) g := cmB_8 hg
  cases h1 : bb x g with
  | false => rfl
  | true =>
    cases h2 : bb (v 0 1) g with
    | true => rfl
    | false =>
      show (0 : Int32) = payC v g
      unfold payC
      rw [hc, h2]
      rfl
theorem c_readPay {μ : Mm} {K : MV → Mm → Prop} {c : Nat} (hw : Wb (vS μ c)) (h54 : ∀ d, d ≤ 9 → c + d ≠ 54) (hK : K mU (mW μ 54 (Fi (payC (vS μ c)) (μ 54) 8))) : s_X0_readPayments [mO 0 53, mO 7 c] μ K := by
  refine g_X0_readPayments ?_
  have ev : ∀ f, vS (mW μ 54 f) c = vS μ c := fun f => vS_congr fun d hd => mW_c (h54 d hd)
  have lp : ∀ (d i : Nat), i + d = 8 → Tot e_X0_readPayments K 2 [mO 0 53, mO 7 c, mI (nI i)] [] (mW μ 54 (Fi (payC (vS μ c)) (μ 54) i)) := by
    intro d
    induction d with
    | zero =>
      intro i hi
      have e : i = 8 := by omega
      subst e
      refine g_X0_readPayments_2 ?_
      rw [if_pos (by decide)]
      exact hK
    | succ d ih =>
      intro i hi
      refine g_X0_readPayments_2 ?_
      rw [if_neg (show ¬ (8 : Int32) ≤ nI i from nI_ge (b := 8) (by omega) (by omega))]
      refine c_pays (by rw [ev]; exact hw) (by omega) ?_
      refine c_put (by omega) (by decide) ?_
      have := ih (i + 1) (by omega)
      rw [← nI_1] at this
      rw [vI_mI, ev, mW_st (f' := Fi (payC (vS μ c)) (μ 54) (i + 1)) Fi_at (fun k hk => Fi_ne hk)]
      exact this
  have := lp 8 0 rfl
  rw [Fi_0, mW_id rfl] at this
  exact this
theorem c_paidBy {μ : Mm} {K : MV → Mm → Prop} {p : Nat → Int32} {x : Int32} (hp : ∀ g, g < 8 → μ 54 g = p g) (hK : K (mI (PB p x 8)) μ) : s_X0_paidBy [mO 0 53, mI x] μ K := by
  refine g_X0_paidBy ?_
  have lp : ∀ (d i : Nat), i + d = 8 → Tot e_X0_paidBy K 4 [mO 0 53, mI x, mI (PB p x i), mI (nI i)] [] μ := by
    intro d
    induction d with
    | zero =>
      intro i hi
      have e : i = 8 := by omega
      subst e
      refine g_X0_paidBy_4 ?_
      rw [if_pos (by decide)]
      exact hK
    | succ d ih =>
      intro i hi
      refine g_X0_paidBy_4 ?_
      rw [if_neg (show ¬ (8 : Int32) ≤ nI i from nI_ge (b := 8) (by omega) (by omega))]
      have hs : PB p x (i + 1) = PB p x i + (bif bb x i then p i else 0) := rfl
      have := ih (i + 1) (by omega)
      rw [← nI_1, hs] at this
      split
      · rename_i q
        have hb : bb x i = false := by unfold bb; rw [q]; rfl
        rw [hb, cond_false, Int32.add_zero] at this
        exact this
      · rename_i q
        have hb : bb x i = true := by unfold bb; rw [and1_ne0 q]; rfl
        rw [hb, cond_true] at this
        refine c_at (by omega) (by decide) ?_
        rw [vI_mI, hp i (by omega)]
        exact this
  exact lp 8 0 rfl
theorem d_layPays {μ : Mm} {K : MV → Mm → Prop} (hw : Wb (vM μ)) (h9 : W9 (vM μ)) (hK : ∀ μ', AgM μ μ' → (∀ g, g < 8 → μ' 69 g = payC (vM μ) g) → K mU μ') : s_X10_layPays [mO 9 55] μ K := by
  refine g_X10_layPays ?_
  have lp : ∀ (d i : Nat) (μ' : Mm), i + d = 8 → AgM μ μ' → (∀ g, g < i → μ' 69 g = payC (vM μ) g) → Tot e_X10_layPays K 2 [mO 9 55, mI (nI i)] [] μ' := by
    intro d
    induction d with
    | zero =>
      intro i μ' hi ha hp
      have e : i = 8 := by omega
      subst e
      refine g_X10_layPays_2 ?_
      rw [if_pos (by decide)]
      exact hK μ' ha hp
    | succ d ih =>
      intro i μ' hi ha hp
      refine g_X10_layPays_2 ?_
      rw [if_neg (show ¬ (8 : Int32) ≤ nI i from nI_ge (b := 8) (by omega) (by omega))]
      refine d_has ?_
      have hcm : decide ((μ 55 1 >>> (nI i &&& 31)) &&& 1 = 1) = cmB (vM μ) (nI i) := (cmB_8 (v := vM μ) (by omega)).symm
      have hpc : payC (vM μ) i = bif cmB (vM μ) (nI i) then pay (vM μ) i else 0 := rfl
      rw [vI_mI, ite_b, ha 55 1 rfl, hcm, nI_clamp (by omega)]
      have hvi : vi (nI i) 8 := vi_nI (by omega) (by decide)
      cases hc : cmB (vM μ) (nI i) with
      | false =>
        rw [hc, cond_false] at hpc
        refine ⟨hvi, ?_⟩
        have := ih (i + 1) (mS μ' 69 i 0) (by omega) (ha.st rfl) (fun g hg => by
          by_cases e : g = i
          · rw [e, mS_eq, hpc]
          · rw [mS_k e]; exact hp g (by omega))
        rw [← nI_1] at this
        exact this
      | true =>
        rw [hc, cond_true] at hpc
        rw [cond_true]
        have hv : vM μ' = vM μ := ha.vM
        refine d_paysOfO (by rw [hv]; exact hw) (by rw [hv]; exact h9) (by omega) fun μ2 ha2 => ?_
        have := ih (i + 1) (mS μ2 69 i (pay (vM μ) i)) (by omega) ((ha.tr ha2.M).st rfl) (fun g hg => by
          by_cases e : g = i
          · rw [e, mS_eq, hpc]
          · rw [mS_k e, ha2 69 g rfl]; exact hp g (by omega))
        rw [← nI_1] at this
        rw [vI_mI, hv]
        exact ⟨hvi, this⟩
  exact lp 8 0 μ rfl (AgM.rf μ) (fun g hg => by omega)
theorem d_takenOf {μ : Mm} {K : MV → Mm → Prop} {p : Nat → Int32} {x : Int32} (hp : ∀ g, g < 8 → μ 69 g = p g) (hK : K (mI (PB p (x &&& μ 55 1) 8)) μ) : s_X10_takenOf [mO 9 55, mI x] μ K := by
  refine g_X10_takenOf ?_
  have lp : ∀ (d i : Nat), i + d = 8 → Tot e_X10_takenOf K 4 [mO 9 55, mI x, mI (PB p (x &&& μ 55 1) i), mI (nI i)] [] μ := by
    intro d
    induction d with
    | zero =>
      intro i hi
      have e : i = 8 := by omega
      subst e
      refine g_X10_takenOf_4 ?_
      rw [if_pos (by decide)]
      exact hK
    | succ d ih =>
      intro i hi
      refine g_X10_takenOf_4 ?_
      rw [if_neg (show ¬ (8 : Int32) ≤ nI i from nI_ge (b := 8) (by omega) (by omega))]
      refine d_has ?_
      have hb : decide (((x &&& μ 55 1) >>> (nI i &&& 31)) &&& 1 = 1) = bb (x &&& μ 55 1) i := rfl
      have hs : PB p (x &&& μ 55 1) (i + 1) = PB p (x &&& μ 55 1) i + (bif bb (x &&& μ 55 1) i then p i else 0) := rfl
      have := ih (i + 1) (by omega)
      rw [← nI_1, hs] at this
      rw [vI_mI, ite_b, hb]
      cases hc : bb (x &&& μ 55 1) i with
      | false =>
        rw [hc, cond_false] at this
        exact this
      | true =>
        rw [hc, cond_true] at this
        rw [cond_true, nI_clamp (by omega), hp i (by omega)]
        exact ⟨vi_nI (by omega) (by decide), this⟩
  exact lp 8 0 rfl
/-- a YEAR's evenings: seed, sum, greatest -/
def yr (p : Nat → Int32) (s : Int32) : Nat → Int32 × Int32 × Int32
  | 0 => (s, 0, 0)
  | k + 1 =>
    let q := yr p s k
    let x := 75 * q.1 + 74 - (75 * q.1 + 74) / 65537 * 65537
    let t := PB p (x - x / 256 * 256) 8
    (x, q.2.1 + t, if q.2.2 < t then t else q.2.2)
theorem c_evenings {μ : Mm} {K : MV → Mm → Prop} {p : Nat → Int32} {s w : Int32} {m : Nat} (hm : m < 2 ^ 31) (hp : ∀ g, g < 8 → μ 54 g = p g) (hK : K (mI (if w = 0 then (yr p s m).2.1 else (yr p s m).2.2)) μ) : Tot e_X0_evenings K 17 [mO 0 53, mO 7 3, mI s, mI (nI m), mI w, mI s, mI 0, mI 0, mI 0, mU] [] μ := by
  have lp : ∀ (d i : Nat) (z : MV), i + d = m → Tot e_X0_evenings K 17 [mO 0 53, mO 7 3, mI s, mI (nI m), mI w, mI (yr p s i).1, mI (yr p s i).2.1, mI (yr p s i).2.2, mI (nI i), z] [] μ := by
    intro d
    induction d with
    | zero =>
      intro i z hi
      have e : i = m := by omega
      subst e
      refine g_X0_evenings_17 ?_
      rw [if_pos (nI_le (Nat.le_refl _) (by omega))]
      split
      · rename_i q; rw [if_pos q] at hK; exact hK
      · rename_i q; rw [if_neg q] at hK; exact hK
    | succ d ih =>
      intro i z hi
      refine g_X0_evenings_17 ?_
      rw [if_neg (nI_ge (by omega) (by omega))]
      refine ⟨by decide, by decide, c_paidBy hp ?_⟩
      have := ih (i + 1) (mI (PB p (75 * (yr p s i).1 + 74 - (75 * (yr p s i).1 + 74) / 65537 * 65537 - (75 * (yr p s i).1 + 74 - (75 * (yr p s i).1 + 74) / 65537 * 65537) / 256 * 256) 8)) (by omega)
      rw [← nI_1] at this
      exact this
  exact lp m 0 mU (by omega)
theorem d_year {μ : Mm} {K : MV → Mm → Prop} {s w : Int32} {m : Nat} (hm : m < 2 ^ 31) (hp : ∀ g, g < 8 → μ 69 g = payC (vM μ) g) (hK : K (mI (if w = 0 then (yr (payC (vM μ)) s m).2.1 else (yr (payC (vM μ)) s m).2.2)) μ) : Tot e_X10_year K 49 [mO 9 55, mI s, mI (nI m), mI w, mI s, mI 0, mI 0, mI 0, mU] [] μ := by
  have lp : ∀ (d i : Nat) (z : MV), i + d = m → Tot e_X10_year K 49 [mO 9 55, mI s, mI (nI m), mI w, mI (yr (payC (vM μ)) s i).1, mI (yr (payC (vM μ)) s i).2.1, mI (yr (payC (vM μ)) s i).2.2, mI (nI i), z] [] μ := by
    intro d
    induction d with
    | zero =>
      intro i z hi
      have e : i = m := by omega
      subst e
      refine g_X10_year_49 ?_
      rw [if_pos (nI_le (Nat.le_refl _) (by omega))]
      split
      · rename_i q; rw [if_pos q] at hK; exact hK
      · rename_i q; rw [if_neg q] at hK; exact hK
    | succ d ih =>
      intro i z hi
      refine g_X10_year_49 ?_
      rw [if_neg (nI_ge (by omega) (by omega))]
      refine ⟨by decide, by decide, d_takenOf hp ?_⟩
      have ec : μ 55 1 = vM μ 0 1 := rfl
      rw [ec, PB_come, vI_mI]
      have := ih (i + 1) (mI (PB (payC (vM μ)) (75 * (yr (payC (vM μ)) s i).1 + 74 - (75 * (yr (payC (vM μ)) s i).1 + 74) / 65537 * 65537 - (75 * (yr (payC (vM μ)) s i).1 + 74 - (75 * (yr (payC (vM μ)) s i).1 + 74) / 65537 * 65537) / 256 * 256) 8)) (by omega)
      rw [← nI_1] at this
      have hs : yr (payC (vM μ)) s (i + 1) = (75 * (yr (payC (vM μ)) s i).1 + 74 - (75 * (yr (payC (vM μ)) s i).1 + 74) / 65537 * 65537, (yr (payC (vM μ)) s i).2.1 + PB (payC (vM μ)) (75 * (yr (payC (vM μ)) s i).1 + 74 - (75 * (yr (payC (vM μ)) s i).1 + 74) / 65537 * 65537 - (75 * (yr (payC (vM μ)) s i).1 + 74 - (75 * (yr (payC (vM μ)) s i).1 + 74) / 65537 * 65537) / 256 * 256) 8, if (yr (payC (vM μ)) s i).2.2 < PB (payC (vM μ)) (75 * (yr (payC (vM μ)) s i).1 + 74 - (75 * (yr (payC (vM μ)) s i).1 + 74) / 65537 * 65537 - (75 * (yr (payC (vM μ)) s i).1 + 74 - (75 * (yr (payC (vM μ)) s i).1 + 74) / 65537 * 65537) / 256 * 256) 8 then PB (payC (vM μ)) (75 * (yr (payC (vM μ)) s i).1 + 74 - (75 * (yr (payC (vM μ)) s i).1 + 74) / 65537 * 65537 - (75 * (yr (payC (vM μ)) s i).1 + 74 - (75 * (yr (payC (vM μ)) s i).1 + 74) / 65537 * 65537) / 256 * 256) 8 else (yr (payC (vM μ)) s i).2.2) := rfl
      rw [hs] at this
      split
      · rename_i q
        rw [if_neg (i_not_lt_of_le q)] at this
        exact this
      · rename_i q
        rw [if_pos (i_lt_of_not_le q)] at this
        exact this
  exact lp m 0 mU (by omega)
theorem call_year {μ : Mm} (r : Rl μ) (a b c : Int32) : s_X9_year [mO 8 0, mI a, mI b, mI c] μ (fun v1 μ1 => s_X10_year [mO 9 55, mI a, mI b, mI c] μ1 (fun v2 μ2 => Gd v1 v2 μ2)) := by
  have no : (decide (0 ≤ a ∧ a ≤ 9999) = false ∨ (decide (1 ≤ b ∧ b ≤ 99) = false ∨ decide (0 ≤ c ∧ c ≤ 1) = false)) → s_X10_year [mO 9 55, mI a, mI b, mI c] μ (fun v2 μ2 => Gd (mI (-2)) v2 μ2) := by
    intro h
    refine g_X10_year (d_in ?_)
    rw [vI_mI, ite_b]
    cases ha : decide (0 ≤ a ∧ a ≤ 9999) with
    | false => exact ⟨rfl, r⟩
    | true =>
      have h := h.resolve_left (by rw [ha]; decide)
      rw [cond_true]
      refine d_in ?_
      rw [vI_mI, ite_b]
      cases hb : decide (1 ≤ b ∧ b ≤ 99) with
      | false => exact ⟨rfl, r⟩
      | true =>
        rw [cond_true]
        refine d_in ?_
        rw [vI_mI, ite_b, h.resolve_left (by rw [hb]; decide)]
        exact ⟨rfl, r⟩
  refine g_X9_year (c_within ?_)
  rw [vI_mI, ite_b]
  cases ha : decide (0 ≤ a ∧ a ≤ 9999) with
  | false => exact no (Or.inl ha)
  | true =>
    rw [cond_true]
    refine c_within ?_
    rw [vI_mI, ite_b]
    cases hb : decide (1 ≤ b ∧ b ≤ 99) with
    | false => exact no (Or.inr (Or.inl hb))
    | true =>
      rw [cond_true]
      refine c_within ?_
      rw [vI_mI, ite_b]
      cases hc : decide (0 ≤ c ∧ c ≤ 1) with
      | false => exact no (Or.inr (Or.inr hc))
      | true =>
        rw [cond_true]
        have hb2 := of_decide_eq_true hb
        obtain ⟨m, hm, rfl⟩ := nI_btw (n := 99) (by omega) (Int32.le_trans (by decide) hb2.1) hb2.2
        refine g_X0_evenings (c_readPay r.wbX (by omega) ?_)
        have ha1 : AgX μ (mW μ 54 (Fi (payC (vS μ 3)) (μ 54) 8)) := fun c k e => by rw [mW_c (fun z => by rw [z] at e; cases e)]
        refine c_evenings (p := payC (vM μ)) (by omega) (fun g hg => by rw [mW_eq, Fi_lt hg, r.v]) ?_
        have r2 := ha1.Rl r
        refine g_X10_year (d_in ?_)
        rw [vI_mI, ite_b, ha, cond_true]
        refine d_in ?_
        rw [vI_mI, ite_b, hb, cond_true]
        refine d_in ?_
        rw [vI_mI, ite_b, hc, cond_true]
        refine d_layPays r2.wb r2.w9 fun μ2 ha2 hp2 => ?_
        have ev : vM μ2 = vM μ := ha2.vM.trans ha1.vM
        refine d_year (by omega) (fun g hg => by rw [hp2 g hg, ha2.vM]) ⟨?_, ha2.Rl r2⟩
        rw [ev, vI_mI]
end
section
/-! ===== ODDS ===== -/
theorem lN_toI {n : Nat} (h : n < 2 ^ 63) : (lN n).toInt = (n : Int) := by
  exact lg_ofNat_toInt h
theorem lN_div {a b : Nat} (ha : a < 2 ^ 63) (hb : b < 2 ^ 63) : lN a / lN b = lN (a / b) := by
  have hq : a / b ≤ a := Nat.div_le_self a b
  apply Int64.toInt_inj.mp
  rw [Int64.toInt_div, lN_toI ha, lN_toI hb, lN_toI (by omega), ← Int.ofNat_tdiv]
  generalize a / b = q at hq ⊢
  rw [Int.bmod_eq_of_le (by omega) (by omega)]
theorem lN_rem {a b : Nat} (ha : a < 2 ^ 63) (hb : b < 2 ^ 63) : lN a - lN a / lN b * lN b = lN (a % b) := by
  have h : a / b * b ≤ a := Nat.div_mul_le_self a b
  rw [lN_div ha hb, lN_mul, lN_sub h]
  congr 1
  rw [Nat.mod_eq_sub, Nat.mul_comm]
theorem lN_0 {b : Nat} (hb : b < 2 ^ 63) : lN b = 0 ↔ b = 0 := by
  rw [show (0 : Int64) = lN 0 from rfl, ← Int64.toInt_inj, lN_toI hb, lN_toI (by omega)]
  omega
theorem cmp_0 {b : Nat} (hb : b < 2 ^ 63) : lg_cmp (lN b) 0 = 0 ↔ b = 0 := by
  unfold lg_cmp
  have hp : (lN b > 0) ↔ 0 < b := by
    show 0 < lN b ↔ _
    rw [Int64.lt_iff_toInt_lt, lN_toI hb, show (0 : Int64).toInt = 0 by decide]
    omega
  by_cases h : b = 0
  · rw [if_neg (fun z => by have := hp.mp z; omega), if_pos ((lN_0 hb).mpr h)]
    simp [h]
  · rw [if_pos (hp.mpr (by omega))]
    simp [h]
theorem cmp_le {b : Nat} (hb : b < 2 ^ 63) (h : 0 < b) : ¬ lg_cmp (lN b) 0 ≤ 0 := by
  unfold lg_cmp
  have hp : lN b > 0 := by
    show 0 < lN b
    rw [Int64.lt_iff_toInt_lt, lN_toI hb, show (0 : Int64).toInt = 0 by decide]
    omega
  rw [if_pos hp]
  decide
def eu : Nat → Nat → Nat → Nat
  | 0, a, _ => a
  | f + 1, a, b => if b = 0 then a else eu f b (a % b)
theorem gcd_step (a b : Nat) : Nat.gcd b (a % b) = Nat.gcd a b := by
  rw [Nat.gcd_comm b (a % b), ← Nat.gcd_rec, Nat.gcd_comm]
theorem eu_gcd : ∀ (k f a b : Nat), b < 2 ^ k → 2 * k + 1 ≤ f → eu f a b = Nat.gcd a b := by
  intro k
  induction k with
  | zero =>
    intro f a b hb hf
    obtain ⟨f, rfl⟩ : ∃ f', f = f' + 1 := ⟨f - 1, by omega⟩
    have : b = 0 := by omega
    subst this
    unfold eu
    rw [if_pos rfl, Nat.gcd_zero_right]
  | succ k ih =>
    intro f a b hb hf
    obtain ⟨f, rfl⟩ : ∃ f', f = f' + 1 + 1 := ⟨f - 2, by omega⟩
    unfold eu
    by_cases h0 : b = 0
    · rw [if_pos h0, h0, Nat.gcd_zero_right]
    · rw [if_neg h0, ← gcd_step a b]
      unfold eu
      by_cases h1 : a % b = 0
      · rw [if_pos h1, h1, Nat.gcd_zero_right]
      · rw [if_neg h1]
        have hlt : a % b < b := Nat.mod_lt a (by omega)
        have h2 : b % (a % b) < a % b := Nat.mod_lt b (by omega)
        have h3 : a % b + b % (a % b) ≤ b := by
          have := Nat.div_add_mod b (a % b)
          have hq : 1 ≤ b / (a % b) := (Nat.one_le_div_iff (by omega)).mpr (by omega)
          have : (a % b) * 1 ≤ (a % b) * (b / (a % b)) := Nat.mul_le_mul_left _ hq
          omega
        rw [ih f _ _ (by rw [Nat.pow_succ] at hb; omega) (by omega), gcd_step]
theorem c_common {μ : Mm} {K : MV → Mm → Prop} {a b : Nat} (ha : a < 2 ^ 63) (hb : b < 2 ^ 63) (hK : K (mJ (lN (eu 1000 a b))) μ) : s_X0_common [mJ (lN a), mJ (lN b)] μ K := by
  refine g_X0_common ?_
  have lp : ∀ (d i x y : Nat) (z : MV), i + d = 1000 → x < 2 ^ 63 → y < 2 ^ 63 → K (mJ (lN (eu d x y))) μ → Tot e_X0_common K 9 [mJ (lN a), mU, mJ (lN b), mU, mJ (lN x), mU, mJ (lN y), mU, mI (nI i), z, mU] [] μ := by
    intro d
    induction d with
    | zero =>
      intro i x y z hi hx hy hk
      have e : i = 1000 := by omega
      subst e
      refine g_X0_common_9 ?_
      rw [if_pos (show (1000 : Int32) ≤ nI 1000 from Int32.le_refl _)]
      exact hk
    | succ d ih =>
      intro i x y z hi hx hy hk
      refine g_X0_common_9 ?_
      rw [if_neg (show ¬ (1000 : Int32) ≤ nI i from nI_ge (b := 1000) (by omega) (by omega))]
      unfold eu at hk
      by_cases h0 : y = 0
      · rw [if_pos ((cmp_0 hy).mpr h0)]
        rw [if_pos h0] at hk
        exact hk
      · rw [if_neg (fun q => h0 ((cmp_0 hy).mp q))]
        rw [if_neg h0] at hk
        refine ⟨fun q => h0 ((lN_0 hy).mp q), ?_⟩
        rw [lN_rem hx hy]
        have := ih (i + 1) y (x % y) (mJ (lN (x % y))) (by omega) hy (Nat.lt_of_le_of_lt (Nat.mod_le x y) hx) hk
        rw [← nI_1] at this
        exact this
  exact lp 1000 0 a b mU (by omega) ha hb hK
theorem d_gcd {μ : Mm} {K : MV → Mm → Prop} {x w c : Int32} {n : Int32} {u lo : Nat} (hlo : 0 < lo) (hu : u < 2 ^ 63) (hl : lo < 2 ^ 63) (hK : K (mJ (if w = 0 then lN u / lN (Nat.gcd u lo) else lN lo / lN (Nat.gcd u lo))) μ) : ∀ (b a : Nat) (z : MV), b < 2 ^ 63 → a < 2 ^ 63 → Nat.gcd a b = Nat.gcd u lo → Tot e_X10_odds K 139 [mO 9 55, mI x, mI c, mI w, mI n, mJ (lN u), mU, mJ (lN lo), mU, mJ (lN a), mU, mJ (lN b), mU, z, mU] [] μ := by
  intro b
  induction b using Nat.strongRecOn with
  | _ b ih =>
    intro a z hb ha hg
    refine g_X10_odds_139 ?_
    by_cases h0 : b = 0
    · rw [if_pos ((cmp_0 hb).mpr h0)]
      subst h0
      rw [Nat.gcd_zero_right] at hg
      subst hg
      have hpos : 0 < Nat.gcd u lo := Nat.gcd_pos_of_pos_right u hlo
      have hne : ¬ lN (Nat.gcd u lo) = 0 := fun q => by have := (lN_0 ha).mp q; omega
      split
      · rename_i q; rw [if_pos q] at hK; exact ⟨hne, hK⟩
      · rename_i q; rw [if_neg q] at hK; exact ⟨hne, hK⟩
    · rw [if_neg (fun q => h0 ((cmp_0 hb).mp q))]
      refine ⟨fun q => h0 ((lN_0 hb).mp q), ?_⟩
      rw [lN_rem ha hb]
      exact ih (a % b) (Nat.mod_lt a (by omega)) b _ (Nat.lt_of_le_of_lt (Nat.mod_le a b) ha) hb (by rw [gcd_step, hg])
/-- how many bits below a place -/
def cbN (x : Int32) : Nat → Nat
  | 0 => 0
  | k + 1 => cbN x k + (bif bb x k then 1 else 0)
theorem bit_I (x : Int32) (k : Nat) : (x >>> (nI k &&& 31)) &&& 1 = nI (bif bb x k then 1 else 0) := by
  unfold bb
  rcases and1 (x >>> (nI k &&& 31)) with h | h <;> (rw [h]; decide)
theorem bits_cb (x : Int32) : bitsI x = nI (cbN x 8) := by
  have : ∀ k, sumN (fun k => (x >>> (nI k &&& 31)) &&& 1) k = nI (cbN x k) := by
    intro k
    induction k with
    | zero => rfl
    | succ k ih =>
      show sumN _ k + _ = _
      rw [ih]
      show nI (cbN x k) + ((x >>> (nI k &&& 31)) &&& 1) = _
      rw [bit_I, nI_add]
      rfl
  exact this 8
theorem cb_le (x : Int32) : ∀ k, cbN x k ≤ k
  | 0 => Nat.le_refl 0
  | k + 1 => by
    have := cb_le x k
    unfold cbN
    cases bb x k <;> simp <;> omega
theorem d_power {μ : Mm} {K : MV → Mm → Prop} {v k : Nat} (hk : k < 2 ^ 31) (hK : K (mJ (lN (v ^ k))) μ) : s_X10_power [mJ (lN v), mI (nI k)] μ K := by
  refine g_X10_power ?_
  have lp : ∀ (d i : Nat), i + d = k → Tot e_X10_power K 5 [mJ (lN v), mU, mI (nI k), mJ (lN (v ^ i)), mU, mI (nI i)] [] μ := by
    intro d
    induction d with
    | zero =>
      intro i hi
      have e : i = k := by omega
      subst e
      refine g_X10_power_5 ?_
      rw [if_pos (nI_le (Nat.le_refl _) hk)]
      exact hK
    | succ d ih =>
      intro i hi
      refine g_X10_power_5 ?_
      rw [if_neg (nI_ge (by omega) hk), lN_mul, ← Nat.pow_succ]
      have := ih (i + 1) (by omega)
      rw [← nI_1] at this
      exact this
  exact lp k 0 (by omega)
def wy (s m : Int32) (c : Nat) : Nat → Nat
  | 0 => 1
  | k + 1 => wy s m c k * (bif bb m k then (bif bb s k then c else 10 - c) else 1)
theorem wy_pow {s m : Int32} {c : Nat} (hsub : ∀ k, k < 8 → bb s k = true → bb m k = true) : ∀ k, k ≤ 8 → cbN s k ≤ cbN m k ∧ wy s m c k = c ^ cbN s k * (10 - c) ^ (cbN m k - cbN s k) := by
  intro k
  induction k with
  | zero => intro _; exact ⟨Nat.le_refl _, rfl⟩
  | succ k ih =>
    intro hk
    obtain ⟨h1, h2⟩ := ih (by omega)
    have hs := hsub k (by omega)
    unfold wy cbN
    rw [h2]
    cases hb : bb m k with
    | false =>
      cases hc : bb s k with
      | false => simp; exact h1
      | true => rw [hs hc] at hb; cases hb
    | true =>
      cases hc : bb s k with
      | false =>
        simp only [cond_true, cond_false, Nat.add_zero]
        refine ⟨by omega, ?_⟩
        rw [show cbN m k + 1 - cbN s k = (cbN m k - cbN s k) + 1 by omega, Nat.pow_succ, Nat.mul_assoc]
      | true =>
        simp only [cond_true]
        refine ⟨by omega, ?_⟩
        rw [show cbN m k + 1 - (cbN s k + 1) = cbN m k - cbN s k by omega, Nat.pow_succ]
        ac_rfl
theorem wy_le {s m : Int32} {c : Nat} (hc : c ≤ 10) : ∀ k, wy s m c k ≤ 10 ^ k
  | 0 => Nat.le_refl _
  | k + 1 => by
    unfold wy
    rw [Nat.pow_succ]
    refine Nat.mul_le_mul (wy_le hc k) ?_
    cases bb m k <;> cases bb s k <;> simp <;> omega
theorem c_waysOf {μ : Mm} {K : MV → Mm → Prop} {s : Int32} {st c : Nat} (hc : c ≤ 10) (hK : K (mJ (lN (wy s (vS μ st 0 1) c 8))) μ) : s_X0_waysOf [mO 7 st, mI s, mI (nI c)] μ K := by
  refine g_X0_waysOf ?_
  have e10 : Int32.toInt64 (10 - nI c) = lN (10 - c) := by
    rw [show (10 : Int32) = nI 10 from rfl, nI_sub hc, nI_l (by omega)]
  have lp : ∀ (d i : Nat), i + d = 8 → Tot e_X0_waysOf K 5 [mO 7 st, mI s, mI (nI c), mJ (lN (wy s (vS μ st 0 1) c i)), mU, mI (nI i)] [] μ := by
    intro d
    induction d with
    | zero =>
      intro i hi
      have e : i = 8 := by omega
      subst e
      refine g_X0_waysOf_5 ?_
      rw [if_pos (by decide)]
      exact hK
    | succ d ih =>
      intro i hi
      refine g_X0_waysOf_5 ?_
      rw [if_neg (show ¬ (8 : Int32) ≤ nI i from nI_ge (b := 8) (by omega) (by omega))]
      refine c_comes ?_
      have hcm : cmB (vS μ st) (nI i) = bb (vS μ st 0 1) i := cmB_8 (by omega)
      have hs : wy s (vS μ st 0 1) c (i + 1) = wy s (vS μ st 0 1) c i * (bif bb (vS μ st 0 1) i then (bif bb s i then c else 10 - c) else 1) := rfl
      have := ih (i + 1) (by omega)
      rw [← nI_1, hs] at this
      rw [vI_mI, ite_b, hcm]
      cases hb : bb (vS μ st 0 1) i with
      | false =>
        rw [hb, cond_false, Nat.mul_one] at this
        exact this
      | true =>
        rw [hb, cond_true] at this
        rw [cond_true]
        split
        · rename_i q
          have hq : bb s i = false := by unfold bb; rw [q]; rfl
          rw [hq, cond_false] at this
          rw [e10, lN_mul]
          exact this
        · rename_i q
          have hq : bb s i = true := by unfold bb; rw [and1_ne0 q]; rfl
          rw [hq, cond_true] at this
          rw [show Int32.toInt64 (nI c) = lN c from nI_l (by omega), lN_mul]
          exact this
  exact lp 8 0 rfl
def subB (m s : Nat) : Bool := decide (nI s &&& (nI m ^^^ (-1 : Int32)) = 0)
theorem sub_le : ∀ m, m < 256 → ∀ s, s < 256 → subB m s = true → s ≤ m := by decide +kernel
theorem not_bit : ∀ m, m < 256 → ∀ k, k < 8 → bb (nI m ^^^ (-1 : Int32)) k = !bb (nI m) k := by decide +kernel
theorem sub_bits {m s k : Nat} (hm : m < 256) (hk : k < 8) (h : subB m s = true) (hs : bb (nI s) k = true) : bb (nI m) k = true := by
  have h := of_decide_eq_true h
  have e := bb_and (nI s) (nI m ^^^ (-1 : Int32)) k
  rw [h, bb0, hs, not_bit m hm k hk] at e
  cases hb : bb (nI m) k with
  | true => rfl
  | false => rw [hb] at e; cases e
/-- the ways of the first sets by which x or more comes in -/
def US (p : Nat → Int32) (m c : Nat) (x : Int32) : Nat → Nat
  | 0 => 0
  | s + 1 => US p m c x s + (bif subB m s then (if PB p (nI s) 8 < x then 0 else wy (nI s) (nI m) c 8) else 0)
theorem US_le {p : Nat → Int32} {m c B : Nat} {x : Int32} (hB : ∀ s, wy (nI s) (nI m) c 8 ≤ B) (s : Nat) : US p m c x s ≤ s * B := by
  induction s with
  | zero => exact Nat.zero_le _
  | succ s ih =>
    have h2 := hB s
    unfold US
    rw [Nat.succ_mul]
    cases subB m s with
    | false => exact Nat.add_le_add ih (Nat.zero_le _)
    | true =>
      rw [cond_true]
      split
      · exact Nat.add_le_add ih (Nat.zero_le _)
      · exact Nat.add_le_add ih h2
theorem US_top {p : Nat → Int32} {m c : Nat} {x : Int32} (hm : m < 256) (d : Nat) : m + 1 + d ≤ 256 → US p m c x (m + 1 + d) = US p m c x (m + 1) := by
  induction d with
  | zero => intro _; rfl
  | succ d ih =>
    intro h
    have ih := ih (by omega)
    rw [← ih]
    generalize hs : m + 1 + d = s
    have e : m + 1 + (d + 1) = s + 1 := by omega
    rw [e]
    unfold US
    cases hb : subB m s with
    | false => rw [cond_false, Nat.add_zero]; cases s <;> rfl
    | true =>
      have := sub_le m hm s (by omega) hb
      omega
end
section
/-! ===== ODDS: both sides ===== -/
theorem wy_B {m c : Nat} (hc : c ≤ 10) (s : Nat) : wy (nI s) (nI m) c 8 ≤ 10 ^ 8 := wy_le hc 8
theorem US_B {p : Nat → Int32} {m c : Nat} {x : Int32} (hc : c ≤ 10) (s : Nat) (hs : s ≤ 256) : US p m c x s < 2 ^ 63 := by
  have h1 := US_le (p := p) (x := x) (wy_B (m := m) hc) s
  have h2 : s * 10 ^ 8 ≤ 256 * 10 ^ 8 := Nat.mul_le_mul_right _ hs
  have h3 : 256 * 10 ^ 8 < 2 ^ 63 := by decide
  exact Nat.lt_of_le_of_lt (Nat.le_trans h1 h2) h3
theorem pow_B {n : Nat} (h : n ≤ 8) : 10 ^ n < 2 ^ 63 := Nat.lt_of_le_of_lt (Nat.pow_le_pow_right (by decide) h) (by decide)
theorem pow_27 {n : Nat} (h : n ≤ 8) : 10 ^ n < 2 ^ 27 := Nat.lt_of_le_of_lt (Nat.pow_le_pow_right (by decide) h) (by decide)
def oddA (u lo : Nat) (w : Int32) : Int64 := if w = 0 then lN u / lN (Nat.gcd u lo) else lN lo / lN (Nat.gcd u lo)
theorem c_comesIn {μ : Mm} {K : MV → Mm → Prop} {p : Nat → Int32} {x w : Int32} {m c : Nat} (hm : m < 256) (hc : c ≤ 10) (e5 : μ 3 5 = nI m) (hp : ∀ g, g < 8 → μ 54 g = p g) (hK : K (mJ (oddA (US p m c x (m + 1)) (10 ^ cbN (nI m) 8) w)) μ) : Tot e_X0_comesIn K 11 [mO 0 53, mO 7 3, mI x, mI (nI c), mI w, mJ 0, mU, mI 0, mU, mU, mU, mU, mU] [] μ := by
  have h8 : cbN (nI m) 8 ≤ 8 := cb_le _ 8
  have hU : US p m c x (m + 1) < 2 ^ 63 := US_B hc _ (by omega)
  have l2 : ∀ (d i : Nat), i + d = cbN (nI m) 8 → Tot e_X0_comesIn K 66 [mO 0 53, mO 7 3, mI x, mI (nI c), mI w, mJ (lN (US p m c x (m + 1))), mU, mJ (lN (10 ^ i)), mU, mI (nI i), mU, mU, mU] [] μ := by
    intro d
    induction d with
    | zero =>
      intro i hi
      have e : i = cbN (nI m) 8 := by omega
      refine g_X0_comesIn_66 ?_
      rw [e5]
      refine c_bitCount hm ?_
      rw [vI_mI, bits_cb, if_pos (by rw [e]; exact nI_le (Nat.le_refl _) (by omega))]
      rw [← e] at hK h8
      refine c_common hU (pow_B h8) ?_
      rw [eu_gcd 27 1000 _ _ (pow_27 h8) (by decide), vJ_mJ]
      have hpos : 0 < Nat.gcd (US p m c x (m + 1)) (10 ^ i) := Nat.gcd_pos_of_pos_right _ (Nat.pow_pos (by decide))
      have hlt : Nat.gcd (US p m c x (m + 1)) (10 ^ i) < 2 ^ 63 := Nat.lt_of_le_of_lt (Nat.gcd_le_right _ (Nat.pow_pos (by decide))) (pow_B h8)
      have hne : ¬ lN (Nat.gcd (US p m c x (m + 1)) (10 ^ i)) = 0 := fun q => by have := (lN_0 hlt).mp q; omega
      have hcm := cmp_le hlt hpos
      unfold oddA at hK
      split
      · rename_i q
        rw [if_pos q] at hK
        exact ⟨hne, hK⟩
      · rename_i q
        rw [if_neg q] at hK
        exact ⟨hne, hK⟩
    | succ d ih =>
      intro i hi
      refine g_X0_comesIn_66 ?_
      rw [e5]
      refine c_bitCount hm ?_
      rw [vI_mI, bits_cb, if_neg (nI_ge (by omega) (by omega)), show (10 : Int64) = lN 10 from rfl, lN_mul, ← Nat.pow_succ]
      have := ih (i + 1) (by omega)
      rw [← nI_1] at this
      exact this
  have l1 : ∀ (d i : Nat), i + d = m + 1 → Tot e_X0_comesIn K 11 [mO 0 53, mO 7 3, mI x, mI (nI c), mI w, mJ (lN (US p m c x i)), mU, mI (nI i), mU, mU, mU, mU, mU] [] μ := by
    intro d
    induction d with
    | zero =>
      intro i hi
      have e : i = m + 1 := by omega
      refine g_X0_comesIn_11 ?_
      rw [e5, if_pos (nI_lt (by omega) (by omega)), e]
      exact l2 (cbN (nI m) 8) 0 (by omega)
    | succ d ih =>
      intro i hi
      refine g_X0_comesIn_11 ?_
      rw [e5, if_neg (nI_nlt (by omega) (by omega))]
      have hs : US p m c x (i + 1) = US p m c x i + (bif subB m i then (if PB p (nI i) 8 < x then 0 else wy (nI i) (nI m) c 8) else 0) := rfl
      have := ih (i + 1) (by omega)
      rw [← nI_1, hs] at this
      split
      · rename_i q
        have hsb : subB m i = true := decide_eq_true q
        rw [hsb, cond_true] at this
        refine c_paidBy hp ?_
        rw [vI_mI]
        split
        · rename_i q2
          rw [if_pos q2, Nat.add_zero] at this
          exact this
        · rename_i q2
          rw [if_neg q2] at this
          refine c_waysOf hc ?_
          have e1 : vS μ 3 0 1 = nI m := e5
          rw [e1, vJ_mJ, lN_add]
          exact this
      · rename_i q
        have hsb : subB m i = false := decide_eq_false q
        rw [hsb, cond_false, Nat.add_zero] at this
        exact this
  exact l1 (m + 1) 0 (by omega)
theorem d_odds {μ : Mm} {K : MV → Mm → Prop} {x w : Int32} {m c : Nat} (hm : m < 256) (hc : c ≤ 10) (e1 : vM μ 0 1 = nI m) (hp : ∀ g, g < 8 → μ 69 g = payC (vM μ) g) (hK : K (mJ (oddA (US (payC (vM μ)) m c x (m + 1)) (10 ^ cbN (nI m) 8) w)) μ) : Tot e_X10_odds K 53 [mO 9 55, mI x, mI (nI c), mI w, mI (nI (cbN (nI m) 8)), mJ 0, mU, mI 0, mU, mU, mU, mU, mU, mU, mU] [] μ := by
  have h8 : cbN (nI m) 8 ≤ 8 := cb_le _ 8
  have hU : US (payC (vM μ)) m c x (m + 1) < 2 ^ 63 := US_B hc _ (by omega)
  have e55 : μ 55 1 = nI m := e1
  have e10 : Int32.toInt64 (10 - nI c) = lN (10 - c) := by
    rw [show (10 : Int32) = nI 10 from rfl, nI_sub hc, nI_l (by omega)]
  have ec : Int32.toInt64 (nI c) = lN c := nI_l (by omega)
  have l1 : ∀ (d i : Nat), i + d = 256 → Tot e_X10_odds K 53 [mO 9 55, mI x, mI (nI c), mI w, mI (nI (cbN (nI m) 8)), mJ (lN (US (payC (vM μ)) m c x i)), mU, mI (nI i), mU, mU, mU, mU, mU, mU, mU] [] μ := by
    intro d
    induction d with
    | zero =>
      intro i hi
      have e : i = 256 := by omega
      subst e
      refine g_X10_odds_53 ?_
      rw [if_pos (show (256 : Int32) ≤ nI 256 from Int32.le_refl _)]
      have htop : US (payC (vM μ)) m c x 256 = US (payC (vM μ)) m c x (m + 1) := by
        have := US_top (p := payC (vM μ)) (c := c) (x := x) hm (255 - m) (by omega)
        rw [show m + 1 + (255 - m) = 256 by omega] at this
        exact this
      rw [htop, show (10 : Int64) = lN 10 from rfl]
      refine d_power (by omega) ?_
      rw [vJ_mJ]
      exact d_gcd (Nat.pow_pos (by decide)) hU (pow_B h8) hK _ _ mU (pow_B h8) hU rfl
    | succ d ih =>
      intro i hi
      refine g_X10_odds_53 ?_
      rw [if_neg (show ¬ (256 : Int32) ≤ nI i from nI_ge (b := 256) (by omega) (by omega)), e55]
      have hs : US (payC (vM μ)) m c x (i + 1) = US (payC (vM μ)) m c x i + (bif subB m i then (if PB (payC (vM μ)) (nI i) 8 < x then 0 else wy (nI i) (nI m) c 8) else 0) := rfl
      have := ih (i + 1) (by omega)
      rw [← nI_1, hs] at this
      split
      · rename_i q
        have hsb : subB m i = true := decide_eq_true q
        rw [hsb, cond_true] at this
        refine d_takenOf hp ?_
        have ecm : μ 55 1 = vM μ 0 1 := rfl
        rw [ecm, PB_come, vI_mI]
        split
        · rename_i q2
          rw [if_pos q2, Nat.add_zero] at this
          exact this
        · rename_i q2
          rw [if_neg q2] at this
          obtain ⟨w1, w2⟩ := wy_pow (s := nI i) (m := nI m) (c := c) (fun k hk hb => sub_bits hm hk hsb hb) 8 (Nat.le_refl 8)
          have hb8 : cbN (nI i) 8 ≤ 8 := cb_le _ 8
          refine d_bits ?_
          rw [vI_mI, bits_cb, ec]
          refine d_power (by omega) (d_bits ?_)
          rw [vI_mI, bits_cb, e10, nI_sub w1]
          refine d_power (by omega) ?_
          rw [vJ_mJ, vJ_mJ, lN_mul, lN_add, ← w2]
          exact this
      · rename_i q
        have hsb : subB m i = false := decide_eq_false q
        rw [hsb, cond_false, Nat.add_zero] at this
        exact this
  exact l1 256 0 rfl
theorem call_odds {μ : Mm} (r : Rl μ) (a b c : Int32) : s_X9_odds [mO 8 0, mI a, mI b, mI c] μ (fun v1 μ1 => s_X10_odds [mO 9 55, mI a, mI b, mI c] μ1 (fun v2 μ2 => Gd v1 v2 μ2)) := by
  have no : (decide (0 ≤ a ∧ a ≤ 9999) = false ∨ (decide (0 ≤ b ∧ b ≤ 10) = false ∨ decide (0 ≤ c ∧ c ≤ 1) = false)) → s_X10_odds [mO 9 55, mI a, mI b, mI c] μ (fun v2 μ2 => Gd (mJ (-1000000000000000002)) v2 μ2) := by
    intro h
    refine g_X10_odds (d_in ?_)
    rw [vI_mI, ite_b]
    cases ha : decide (0 ≤ a ∧ a ≤ 9999) with
    | false => exact ⟨rfl, r⟩
    | true =>
      have h := h.resolve_left (by rw [ha]; decide)
      rw [cond_true]
      refine d_in ?_
      rw [vI_mI, ite_b]
      cases hb : decide (0 ≤ b ∧ b ≤ 10) with
      | false => exact ⟨rfl, r⟩
      | true =>
        rw [cond_true]
        refine d_in ?_
        rw [vI_mI, ite_b, h.resolve_left (by rw [hb]; decide)]
        exact ⟨rfl, r⟩
  refine g_X9_odds (c_within ?_)
  rw [vI_mI, ite_b]
  cases ha : decide (0 ≤ a ∧ a ≤ 9999) with
  | false => exact no (Or.inl ha)
  | true =>
    rw [cond_true]
    refine c_within ?_
    rw [vI_mI, ite_b]
    cases hb : decide (0 ≤ b ∧ b ≤ 10) with
    | false => exact no (Or.inr (Or.inl hb))
    | true =>
      rw [cond_true]
      refine c_within ?_
      rw [vI_mI, ite_b]
      cases hc : decide (0 ≤ c ∧ c ≤ 1) with
      | false => exact no (Or.inr (Or.inr hc))
      | true =>
        rw [cond_true]
        have hb2 := of_decide_eq_true hb
        obtain ⟨k, hk, rfl⟩ := nI_btw (n := 10) (by omega) hb2.1 hb2.2
        obtain ⟨m, hm, e3, e55⟩ := r.f1
        refine g_X0_comesIn (c_readPay r.wbX (by omega) ?_)
        have ha1 : AgX μ (mW μ 54 (Fi (payC (vS μ 3)) (μ 54) 8)) := fun c k e => by rw [mW_c (fun z => by rw [z] at e; cases e)]
        refine c_comesIn (p := payC (vM μ)) hm hk (by rw [mW_c (by decide)]; exact e3) (fun g hg => by rw [mW_eq, Fi_lt hg, r.v]) ?_
        have r2 := ha1.Rl r
        refine g_X10_odds (d_in ?_)
        rw [vI_mI, ite_b, ha, cond_true]
        refine d_in ?_
        rw [vI_mI, ite_b, hb, cond_true]
        refine d_in ?_
        rw [vI_mI, ite_b, hc, cond_true]
        refine d_layPays r2.wb r2.w9 fun μ2 ha2 hp2 => ?_
        have ev : vM μ2 = vM μ := ha2.vM.trans ha1.vM
        have em : μ2 55 1 = nI m := by
          have : vM μ2 0 1 = vM μ 0 1 := by rw [ev]
          exact this.trans e55
        rw [em]
        refine d_bits ?_
        rw [vI_mI, bits_cb]
        refine d_odds hm hk em (fun g hg => by rw [hp2 g hg, ha2.vM]) ⟨?_, ha2.Rl r2⟩
        rw [ev, vJ_mJ]
end
section
/-! ===== two houses: who goes over when ===== -/
def sth (v : Vw) (e : Nat) (k : Nat) : Int32 := sumN (fun j => v 3 (e + j)) k
/-- what a guest has who has e acts here, then k there -/
def val (v : Vw) (g e k : Nat) : Int32 := sw v g e - fr (v 0 2) (v 0 3) e + (sth v e k - fr (v 0 5) (v 0 3) k)
abbrev T3 : Type := Int32 × Nat × Nat
def inn (v : Vw) (g e : Nat) (s : T3) : Nat → T3
  | 0 => s
  | k + 1 => if val v g e k ≤ (inn v g e s k).1 then inn v g e s k else (val v g e k, e, e + k)
def out (v : Vw) (g : Nat) : Nat → T3
  | 0 => (0, 0, 0)
  | e + 1 => inn v g e (out v g e) (nA v - e + 1)
def OV (v : Vw) (g : Nat) : T3 := out v g (nA v + 1)
theorem val_00 (v : Vw) (g : Nat) : val v g 0 0 = 0 := by
  unfold val
  rw [sw0, fr_0]
  show (0 : Int32) + (0 - 0) = 0
  decide
theorem inn_b {v : Vw} {g e : Nat} {s : T3} {n : Nat} (hs : s.2.1 ≤ s.2.2 ∧ s.2.2 ≤ n) : ∀ k, e + k ≤ n + 1 → (inn v g e s k).2.1 ≤ (inn v g e s k).2.2 ∧ (inn v g e s k).2.2 ≤ n
  | 0, _ => hs
  | k + 1, h => by
    unfold inn
    split
    · exact inn_b hs k (by omega)
    · exact ⟨by show e ≤ e + k; omega, by show e + k ≤ n; omega⟩
theorem out_b {v : Vw} {g : Nat} : ∀ e, e ≤ nA v + 1 → (out v g e).2.1 ≤ (out v g e).2.2 ∧ (out v g e).2.2 ≤ nA v
  | 0, _ => ⟨Nat.le_refl 0, Nat.zero_le _⟩
  | e + 1, h => by
    unfold out
    exact inn_b (out_b e (by omega)) _ (by omega)
theorem OV_b {v : Vw} {g : Nat} : (OV v g).2.1 ≤ (OV v g).2.2 ∧ (OV v g).2.2 ≤ nA v := out_b _ (Nat.le_refl _)
theorem c_at_any {μ : Mm} {K : MV → Mm → Prop} {n c i : Nat} (hn : n < 2 ^ 31) (h : ∀ x, K (mI x) μ) : s_X5_at [mA n c, mI (nI i)] μ K := by
  refine g_X5_at ?_
  split
  · exact h _
  · rename_i q
    split
    · exact h _
    · rename_i q2
      refine ⟨?_, h _⟩
      have h1 := Int32.not_lt.mp q
      have h2 := Int32.not_le.mp q2
      unfold vi
      rw [Int32.le_iff_toInt_le] at h1
      rw [Int32.lt_iff_toInt_lt, nI_toInt hn] at h2
      exact ⟨h1, h2⟩
theorem c_wp_any {μ : Mm} {K : MV → Mm → Prop} {c g e : Nat} (hw : Wb (vS μ c)) (hg : g < 8) (he : e ≤ 6) (h : ∀ x, K (mI x) μ) : s_X8_worthPlayed [mO 7 c, mI (nI g), mI (nI e)] μ K := by
  by_cases h6 : e < 6
  · exact c_worthPlayed hw hg h6 (h _)
  · have : e = 6 := by omega
    subst this
    refine g_X8_worthPlayed (c_at_out (Or.inr (nI_le (Nat.le_refl _) (by omega))) ?_)
    rw [vI_mI, show nI g * 6 + 0 = nI (6 * g + 0) from lit6' g 0]
    exact c_at_any (by decide) h
def mT (μ : Mm) (c i k : Nat) (s : T3) : Mm := mS (mS μ c i (nI s.2.1)) c k (nI s.2.2)
theorem mT_mT {μ : Mm} {c i k : Nat} {s : T3} {e f : Nat} {x : Int32} (h : i ≠ k) : mS (mS (mT μ c i k s) c i (nI e)) c k (nI f) = mT μ c i k (x, e, f) := by
  unfold mT
  rw [mS_comm (c := c) (k := k) (c' := c) (k' := i) (fun z => h z.2.symm), mS_mS, mS_mS]
theorem mT_c {μ : Mm} {c i k : Nat} {s : T3} {c' : Nat} (h : c' ≠ c) : mT μ c i k s c' = μ c' := by
  unfold mT
  rw [mS_c h, mS_c h]
theorem c_send {μ : Mm} {K : MV → Mm → Prop} {c g : Nat} (hw : Wb (vS μ c)) (hc : ∀ d, d ≤ 9 → c + d ≠ 50) (hg : g < 8) (hK : K mU (mT μ 50 0 1 (OV (vS μ c) g))) : s_X1_send [mO 1 50, mO 7 c, mI (nI g)] μ K := by
  refine g_X1_send ?_
  have hn : μ c 0 = nI (nA (vS μ c)) := hw.1.2.2
  have h6 := hw.1.2.1
  have hc0 : c ≠ 50 := hc 0 (by omega)
  have ev : ∀ s, vS (mT μ 50 0 1 s) c = vS μ c := fun s => vS_congr fun d hd => mT_c (hc d hd)
  have rd : ∀ s, mT μ 50 0 1 s c = μ c := fun s => mT_c hc0
  -- one row: from f on
  have lin : ∀ (d k e : Nat) (x l4 : Int32), e ≤ nA (vS μ c) → k + d = nA (vS μ c) - e + 1 → (k ≤ nA (vS μ c) - e → x = val (vS μ c) g e k) → (∀ y : Int32, ∀ z, Tot e_X1_send K 18 [mO 1 50, mO 7 c, mI (nI g), mI (inn (vS μ c) g e (out (vS μ c) g e) (nA (vS μ c) - e + 1)).1, mI (if e < nA (vS μ c) then l4 + (wp (vS μ c) g e - μ c 1 - nI e * μ c 2) else y), mI (nI (e + 1)), mI z, mI (nI (nA (vS μ c) + 1))] [] (mT μ 50 0 1 (inn (vS μ c) g e (out (vS μ c) g e) (nA (vS μ c) - e + 1)))) → Tot e_X1_send K 35 [mO 1 50, mO 7 c, mI (nI g), mI (inn (vS μ c) g e (out (vS μ c) g e) k).1, mI l4, mI (nI e), mI x, mI (nI (e + k))] [] (mT μ 50 0 1 (inn (vS μ c) g e (out (vS μ c) g e) k)) := by
    intro d
    induction d with
    | zero =>
      intro k e x l4 he hk hx hnext
      have ek : k = nA (vS μ c) - e + 1 := by omega
      refine g_X1_send_35 ?_
      rw [rd, hn, if_pos (nI_lt (by omega) (by omega))]
      by_cases hen : e < nA (vS μ c)
      · refine c_worthPlayed (by rw [ev]; exact hw) hg (by omega) ?_
        have := hnext 0 x
        rw [if_pos hen, ← ek, ← nI_1, show nA (vS μ c) + 1 = e + k by omega] at this
        rw [vI_mI, ev, rd]
        exact this
      · refine c_wp_any (by rw [ev]; exact hw) hg (by omega) fun y => ?_
        have := hnext (l4 + (y - μ c 1 - nI e * μ c 2)) x
        rw [if_neg hen, ← ek, ← nI_1, show nA (vS μ c) + 1 = e + k by omega] at this
        rw [vI_mI, rd]
        exact this
    | succ d ih =>
      intro k e x l4 he hk hx hnext
      have hx := hx (by omega)
      subst hx
      refine g_X1_send_35 ?_
      rw [rd, hn, if_neg (nI_nlt (by omega) (by omega))]
      -- the next sum
      have hnx : k + 1 ≤ nA (vS μ c) - e → val (vS μ c) g e k + (μ (c + 3) (e + k) - μ c 4 - (nI (e + k) - nI e) * μ c 2) = val (vS μ c) g e (k + 1) := by
        intro hk1
        have e1 : nI (e + k) - nI e = nI k := nI_sub0 e k
        have e3 : vS μ c 3 (e + k) = μ (c + 3) (e + k) := tr_at (f := μ (c + 3)) (by omega)
        have es : sth (vS μ c) e (k + 1) = sth (vS μ c) e k + vS μ c 3 (e + k) := rfl
        have ef := fr_succ (μ c 4) (μ c 2) (k := k) (by omega)
        unfold val
        rw [es, e3, e1]
        show sw (vS μ c) g e - fr (μ c 1) (μ c 2) e + (sth (vS μ c) e k - fr (μ c 4) (μ c 2) k) + _ = sw (vS μ c) g e - fr (μ c 1) (μ c 2) e + (_ - fr (μ c 4) (μ c 2) (k + 1))
        rw [ef]
        generalize sw (vS μ c) g e - fr (μ c 1) (μ c 2) e = A
        generalize sth (vS μ c) e k = B
        generalize fr (μ c 4) (μ c 2) k = C
        generalize nI k * μ c 2 = E
        generalize μ (c + 3) (e + k) = F
        generalize μ c 4 = G
        grind
      have hi : inn (vS μ c) g e (out (vS μ c) g e) (k + 1) = if val (vS μ c) g e k ≤ (inn (vS μ c) g e (out (vS μ c) g e) k).1 then inn (vS μ c) g e (out (vS μ c) g e) k else (val (vS μ c) g e k, e, e + k) := rfl
      have go : ∀ (s : T3) (y : Int32), s = inn (vS μ c) g e (out (vS μ c) g e) (k + 1) → (k + 1 ≤ nA (vS μ c) - e → y = μ (c + 3) (e + k)) → Tot e_X1_send K 35 [mO 1 50, mO 7 c, mI (nI g), mI s.1, mI l4, mI (nI e), mI (val (vS μ c) g e k + (y - μ c 4 - (nI (e + k) - nI e) * μ c 2)), mI (nI (e + k) + 1)] [] (mT μ 50 0 1 s) := by
        intro s y hs hy
        have := ih (k + 1) e (val (vS μ c) g e k + (y - μ c 4 - (nI (e + k) - nI e) * μ c 2)) l4 he (by omega) (fun hk1 => by rw [hy hk1]; exact hnx hk1) hnext
        rw [← hs, ← Nat.add_assoc, ← nI_1] at this
        exact this
      have at3 : ∀ (s : T3) (K' : MV → Mm → Prop), (∀ y, (k + 1 ≤ nA (vS μ c) - e → y = μ (c + 3) (e + k)) → K' (mI y) (mT μ 50 0 1 s)) → s_X5_at [mA 6 (c + 3), mI (nI (e + k))] (mT μ 50 0 1 s) K' := by
        intro s K' h
        by_cases hk1 : k + 1 ≤ nA (vS μ c) - e
        · refine c_at (by omega) (by decide) ?_
          rw [mT_c (hc 3 (by omega))]
          exact h _ (fun _ => rfl)
        · exact c_at_any (by decide) (fun x => h x (fun z => absurd z hk1))
      split
      · rename_i q
        rw [if_pos q] at hi
        refine at3 _ _ fun y hy => ?_
        rw [vI_mI, rd]
        exact go _ y hi.symm hy
      · rename_i q
        rw [if_neg q] at hi
        rw [mT_mT (x := val (vS μ c) g e k) (by decide)]
        refine at3 _ _ fun y hy => ?_
        rw [vI_mI, rd]
        exact go (val (vS μ c) g e k, e, e + k) y hi.symm hy
  have lout : ∀ (d e : Nat) (l4 : Int32) (z6 z7 : MV), e + d = nA (vS μ c) + 1 → (e ≤ nA (vS μ c) → l4 = sw (vS μ c) g e - fr (μ c 1) (μ c 2) e) → Tot e_X1_send K 18 [mO 1 50, mO 7 c, mI (nI g), mI (out (vS μ c) g e).1, mI l4, mI (nI e), z6, z7] [] (mT μ 50 0 1 (out (vS μ c) g e)) := by
    intro d
    induction d with
    | zero =>
      intro e l4 z6 z7 he hl
      have ee : e = nA (vS μ c) + 1 := by omega
      refine g_X1_send_18 ?_
      rw [rd, hn, if_pos (by rw [ee]; exact nI_lt (by omega) (by omega)), ee]
      exact hK
    | succ d ih =>
      intro e l4 z6 z7 he hl
      have hl := hl (by omega)
      refine g_X1_send_18 ?_
      rw [rd, hn, if_neg (nI_nlt (by omega) (by omega))]
      refine lin (nA (vS μ c) - e + 1) 0 e l4 l4 (by omega) (by omega) (fun _ => ?_) (fun y z => ?_)
      · rw [hl]
        unfold val
        show _ = _ + (sumN _ 0 - fr _ _ 0)
        rw [fr_0]
        show _ = sw (vS μ c) g e - fr (μ c 1) (μ c 2) e + ((0 : Int32) - 0)
        grind
      · refine ih (e + 1) _ _ _ (by omega) fun he1 => ?_
        rw [if_pos (by omega), hl, fr_succ _ _ (by omega)]
        show _ = sw (vS μ c) g e + wp (vS μ c) g e - _
        generalize sw (vS μ c) g e = A
        generalize fr (μ c 1) (μ c 2) e = B
        generalize wp (vS μ c) g e = C
        generalize nI e * μ c 2 = E
        generalize μ c 1 = F
        grind
  have := lout (nA (vS μ c) + 1) 0 0 mU mU (by omega) (fun _ => sw0.symm)
  exact this
end
section
/-! ===== two houses: the reference's walk, and the answer ===== -/
theorem d_goOver {μ : Mm} {K : MV → Mm → Prop} {g : Nat} (hw : Wb (vM μ)) (hs : W9 (vM μ)) (hg : g < 8) (hK : K mU (mT μ 55 21 22 (OV (vM μ) g))) : s_X10_goOver [mO 9 55, mI (nI g)] μ K := by
  refine g_X10_goOver ?_
  have hn : μ 55 0 = nI (nA (vM μ)) := hw.1.2.2
  have h6 := hw.1.2.1
  have ag : ∀ s, AgM μ (mT μ 55 21 22 s) := fun s => ((AgM.rf μ).st rfl).st rfl
  have lin : ∀ (d k e : Nat) (m : Int32) (μ' : Mm) (z7 : MV), e ≤ nA (vM μ) → k + d = nA (vM μ) - e + 1 →
      ((e = 0 ∧ k = 0 ∧ m = (-1000000) ∧ μ' = μ) ∨ (m = (inn (vM μ) g e (out (vM μ) g e) k).1 ∧ μ' = mT μ 55 21 22 (inn (vM μ) g e (out (vM μ) g e) k))) →
      (∀ (y : Int32) (x z : MV), Tot e_X10_goOver K 8 [mO 9 55, mI (nI g), mI (inn (vM μ) g e (out (vM μ) g e) (nA (vM μ) - e + 1)).1, mI (sw (vM μ) g e), mI (nI (e + 1)), mI y, x, z] [] (mT μ 55 21 22 (inn (vM μ) g e (out (vM μ) g e) (nA (vM μ) - e + 1)))) →
      Tot e_X10_goOver K 55 [mO 9 55, mI (nI g), mI m, mI (sw (vM μ) g e), mI (nI e), mI (sth (vM μ) e (k - 1)), mI (nI (e + k)), z7] [] μ' := by
    intro d
    induction d with
    | zero =>
      intro k e m μ' z7 he hk hm hnext
      have ek : k = nA (vM μ) - e + 1 := by omega
      rcases hm with hm | ⟨hm, hμ⟩
      · omega
      refine g_X10_goOver_55 ?_
      subst hμ
      rw [hm, ag _ 55 0 rfl, hn, if_pos (nI_lt (by omega) (by omega))]
      have := hnext (sth (vM μ) e (k - 1)) (mI (nI (e + k))) z7
      rw [← ek, ← nI_1 e] at this
      exact this
    | succ d ih =>
      intro k e m μ' z7 he hk hm hnext
      have ha : AgM μ μ' := by
        rcases hm with ⟨-, -, -, hμ⟩ | ⟨-, hμ⟩
        · rw [hμ]; exact AgM.rf μ
        · rw [hμ]; exact ag _
      have hi : inn (vM μ) g e (out (vM μ) g e) (k + 1) = if val (vM μ) g e k ≤ (inn (vM μ) g e (out (vM μ) g e) k).1 then inn (vM μ) g e (out (vM μ) g e) k else (val (vM μ) g e k, e, e + k) := rfl
      have hv : vM μ' = vM μ := ha.vM
      have go : s_X10_faresOf [mO 9 55, mI (μ' 55 2), mI (nI e)] μ' (fun v1 μ1 => s_X10_faresOf [mO 9 55, mI (μ1 55 5), mI (nI (e + k) - nI e)] μ1 (fun v2 μ2 => if ((sw (vM μ) g e + sth (vM μ) e k) - (vI v1)) - (vI v2) ≤ m then Tot e_X10_goOver K 55 [mO 9 55, mI (nI g), mI m, mI (sw (vM μ) g e), mI (nI e), mI (sth (vM μ) e k), mI (nI (e + k) + 1), mI (((sw (vM μ) g e + sth (vM μ) e k) - (vI v1)) - (vI v2))] [] μ2 else Tot e_X10_goOver K 55 [mO 9 55, mI (nI g), mI (((sw (vM μ) g e + sth (vM μ) e k) - (vI v1)) - (vI v2)), mI (sw (vM μ) g e), mI (nI e), mI (sth (vM μ) e k), mI (nI (e + k) + 1), mI (((sw (vM μ) g e + sth (vM μ) e k) - (vI v1)) - (vI v2))] [] (mS (mS μ2 55 21 (nI e)) 55 22 (nI (e + k))))) := by
        refine d_faresOf (by rw [hv]; exact hs) (by omega) ?_
        rw [nI_sub0]
        refine d_faresOf (by rw [hv]; exact hs) (by omega) ?_
        rw [vI_mI, vI_mI, ha 55 2 rfl, ha 55 3 rfl, ha 55 5 rfl]
        have ev : ((sw (vM μ) g e + sth (vM μ) e k) - fr (μ 55 2) (μ 55 3) e) - fr (μ 55 5) (μ 55 3) k = val (vM μ) g e k := by
          show _ = sw (vM μ) g e - fr (μ 55 2) (μ 55 3) e + (sth (vM μ) e k - fr (μ 55 5) (μ 55 3) k)
          generalize sw (vM μ) g e = A
          generalize sth (vM μ) e k = B
          generalize fr (μ 55 2) (μ 55 3) e = C
          generalize fr (μ 55 5) (μ 55 3) k = D
          grind
        rw [ev]
        have hn1 : nI (e + k) + 1 = nI (e + (k + 1)) := nI_1 (e + k)
        rw [hn1]
        rcases hm with ⟨e0, k0, hm, hμ⟩ | ⟨hm, hμ⟩
        · subst e0
          subst k0
          subst hμ
          have h0 : val (vM μ') g 0 0 = 0 := val_00 (vM μ') g
          rw [if_pos (by rw [h0]; show (0 : Int32) ≤ 0; decide)] at hi
          rw [hm, h0, if_neg (by decide)]
          refine ih 1 0 0 _ _ he (by omega) (Or.inr ⟨?_, ?_⟩) hnext
          · rw [hi]; rfl
          · rw [hi]; rfl
        · subst hμ
          rw [hm]
          split
          · rename_i q
            rw [if_pos q] at hi
            refine ih (k + 1) e _ _ _ he (by omega) (Or.inr ⟨?_, ?_⟩) hnext
            · rw [hi]
            · rw [hi]
          · rename_i q
            rw [if_neg q] at hi
            rw [mT_mT (x := val (vM μ) g e k) (by decide)]
            refine ih (k + 1) e _ _ _ he (by omega) (Or.inr ⟨?_, ?_⟩) hnext
            · rw [hi]
            · rw [hi]
      refine g_X10_goOver_55 ?_
      rw [ha 55 0 rfl, hn, if_neg (nI_nlt (by omega) (by omega))]
      by_cases hk0 : k = 0
      · rw [if_pos (by rw [hk0]; exact Int32.le_refl _)]
        have e5 : sth (vM μ) e (k - 1) + 0 = sth (vM μ) e k := by
          rw [hk0]
          show (0 : Int32) + 0 = 0
          decide
        rw [e5]
        exact go
      · obtain ⟨j, rfl⟩ : ∃ j, k = j + 1 := ⟨k - 1, by omega⟩
        rw [if_neg (i_not_le_of_lt (nI_lt (by omega) (by omega)))]
        have ep : nI (e + (j + 1)) - 1 = nI (e + j) := nI_pred (e + j)
        have e59 : μ' 59 = μ 59 := ha.cell fun _ => rfl
        have e3 : vM μ 3 (e + j) = μ 59 (e + j) := tr_at (f := μ 59) (by omega)
        rw [ep, nI_clamp (by omega), e59, ← e3]
        refine ⟨vi_nI (by omega) (by decide), ?_⟩
        exact go
  have lout : ∀ (d e : Nat) (m : Int32) (μ' : Mm) (z5 z6 z7 : MV), e + d = nA (vM μ) + 1 →
      ((e = 0 ∧ m = (-1000000) ∧ μ' = μ) ∨ (0 < e ∧ m = (out (vM μ) g e).1 ∧ μ' = mT μ 55 21 22 (out (vM μ) g e))) →
      Tot e_X10_goOver K 8 [mO 9 55, mI (nI g), mI m, mI (sw (vM μ) g (e - 1)), mI (nI e), z5, z6, z7] [] μ' := by
    intro d
    induction d with
    | zero =>
      intro e m μ' z5 z6 z7 he hm
      rcases hm with hm | ⟨-, hm, hμ⟩
      · omega
      refine g_X10_goOver_8 ?_
      subst hμ
      rw [ag _ 55 0 rfl, hn, if_pos (nI_lt (by omega) (by omega)), show e = nA (vM μ) + 1 by omega]
      exact hK
    | succ d ih =>
      intro e m μ' z5 z6 z7 he hm
      have ha : AgM μ μ' := by
        rcases hm with ⟨-, -, hμ⟩ | ⟨-, -, hμ⟩
        · rw [hμ]; exact AgM.rf μ
        · rw [hμ]; exact ag _
      refine g_X10_goOver_8 ?_
      rw [ha 55 0 rfl, hn, if_neg (nI_nlt (by omega) (by omega))]
      have go : Tot e_X10_goOver K 55 [mO 9 55, mI (nI g), mI m, mI (sw (vM μ) g e), mI (nI e), mI 0, mI (nI e), z7] [] μ' := by
        refine lin (nA (vM μ) - e + 1) 0 e m μ' z7 (by omega) (by omega) ?_ (fun y x z => ?_)
        · rcases hm with ⟨e0, hm, hμ⟩ | ⟨-, hm, hμ⟩
          · exact Or.inl ⟨e0, rfl, hm, hμ⟩
          · exact Or.inr ⟨hm, hμ⟩
        · exact ih (e + 1) _ _ _ _ _ (by omega) (Or.inr ⟨by omega, rfl, rfl⟩)
      by_cases he0 : e = 0
      · rw [if_pos (by rw [he0]; show (0 : Int32) ≤ 0; decide)]
        have e5 : sw (vM μ) g (e - 1) + 0 = sw (vM μ) g e := by
          rw [he0]
          show (0 : Int32) + 0 = 0
          decide
        rw [e5]
        exact go
      · obtain ⟨j, rfl⟩ : ∃ j, e = j + 1 := ⟨e - 1, by omega⟩
        rw [if_neg (i_not_le_of_lt (show (0 : Int32) < nI (j + 1) from nI_lt (a := 0) (by omega) (by omega)))]
        obtain ⟨w1, w2, w3⟩ := wbM_wp hw hg (j := j) (by omega)
        have ep : nI (j + 1) - 1 = nI j := nI_pred j
        have e57 : μ' 57 = μ 57 := ha.cell (fun _ => rfl)
        have e56 : μ' 56 = μ 56 := ha.cell (fun _ => rfl)
        have ex : 6 * nI g + nI (oA (vM μ) j) = nI (6 * g + oA (vM μ) j) := by
          rw [show (6 : Int32) * nI g = nI 6 * nI g from rfl, nI_mul, nI_add]
        rw [ep, nI_clamp (by omega), e57, w3, ex, nI_clamp (by omega), e56, ← w2]
        exact ⟨vi_nI (by omega) (by decide), vi_nI w1 (by decide), go⟩
  exact lout (nA (vM μ) + 1) 0 (-1000000) μ mU mU mU (by omega) (Or.inl ⟨rfl, rfl, rfl⟩)
theorem call_over {μ : Mm} (r : Rl μ) (a b : Int32) : s_X9_over [mO 8 0, mI a, mI b] μ (fun v1 μ1 => s_X10_over [mO 9 55, mI a, mI b] μ1 (fun v2 μ2 => Gd v1 v2 μ2)) := by
  refine g_X9_over (c_comes ?_)
  rw [vI_mI, ite_b, r.v]
  cases hc : cmB (vM μ) a with
  | false =>
    rw [cond_false]
    refine g_X10_over (d_comes ?_)
    rw [vI_mI, ite_b, hc]
    exact ⟨rfl, r⟩
  | true =>
    rw [cond_true]
    refine c_within ?_
    rw [vI_mI, ite_b]
    cases hb : decide (0 ≤ b ∧ b ≤ 1) with
    | false =>
      rw [cond_false]
      refine g_X10_over (d_comes ?_)
      rw [vI_mI, ite_b, hc, cond_true]
      refine d_in ?_
      rw [vI_mI, ite_b, hb]
      exact ⟨rfl, r⟩
    | true =>
      rw [cond_true]
      obtain ⟨g, hg, rfl⟩ := gst_in hc
      refine c_send (by rw [r.v]; exact r.wb) (fun d hd => by omega) hg ?_
      rw [r.v]
      have ha : AgX μ (mT μ 50 0 1 (OV (vM μ) g)) := ((AgX.rf μ).st rfl).st rfl
      have r2 : Rl (mT μ 50 0 1 (OV (vM μ) g)) := ha.Rl r
      have ref : ∀ v1 : MV, v1 = (if b = 0 then mI (nI (OV (vM μ) g).2.1) else mI (nI (OV (vM μ) g).2.2)) → s_X10_over [mO 9 55, mI (nI g), mI b] (mT μ 50 0 1 (OV (vM μ) g)) (fun v2 μ2 => Gd v1 v2 μ2) := by
        intro v1 hv1
        refine g_X10_over (d_comes ?_)
        rw [vI_mI, ite_b, ha.vM, hc, cond_true]
        refine d_in ?_
        rw [vI_mI, ite_b, hb, cond_true]
        refine d_goOver r2.wb r2.w9 hg ?_
        rw [ha.vM]
        have r3 : Rl (mT (mT μ 50 0 1 (OV (vM μ) g)) 55 21 22 (OV (vM μ) g)) := (((AgM.rf _).st rfl).st rfl : AgM (mT μ 50 0 1 (OV (vM μ) g)) _).Rl r2
        split
        · rename_i q
          rw [if_pos q] at hv1
          exact ⟨hv1, r3⟩
        · rename_i q
          rw [if_neg q] at hv1
          exact ⟨hv1, r3⟩
      split
      · rename_i q
        exact ref _ (by rw [if_pos q]; rfl)
      · rename_i q
        exact ref _ (by rw [if_neg q]; rfl)
end
section
/-! ===== two houses: what each takes in all ===== -/
def hr (v : Vw) (s g : Nat) : Int32 := bif cmB v (nI g) then (if s = 0 then fr (v 0 2) (v 0 3) (OV v g).2.1 else fr (v 0 5) (v 0 3) ((OV v g).2.2 - (OV v g).2.1)) else 0
def HS (v : Vw) (s : Nat) : Int32 := sumN (hr v s) 8
theorem mT_0 {μ : Mm} {s : T3} : mT μ 50 0 1 s 50 0 = nI s.2.1 := by unfold mT; rw [mS_k (by decide), mS_eq]
theorem mT_1 {μ : Mm} {s : T3} : mT μ 50 0 1 s 50 1 = nI s.2.2 := by unfold mT; rw [mS_eq]
theorem mT_k {μ : Mm} {c i k : Nat} {s : T3} {j : Nat} (h1 : j ≠ i) (h2 : j ≠ k) : mT μ c i k s c j = μ c j := by
  unfold mT
  rw [mS_k h2, mS_k h1]
theorem c_sendAll {μ : Mm} {K : MV → Mm → Prop} {c : Nat} (hw : Wb (vS μ c)) (hc : ∀ d, d ≤ 9 → c + d ≠ 50) (hK : ∀ μ', (∀ c', c' ≠ 50 → μ' c' = μ c') → μ' 50 2 = HS (vS μ c) 0 → μ' 50 3 = HS (vS μ c) 1 → K mU μ') : s_X1_sendAll [mO 1 50, mO 7 c] μ K := by
  refine g_X1_sendAll ?_
  have hc0 : c ≠ 50 := hc 0 (by omega)
  have lp : ∀ (d g : Nat) (μ' : Mm), g + d = 8 → (∀ c', c' ≠ 50 → μ' c' = μ c') → μ' 50 2 = sumN (hr (vS μ c) 0) g → μ' 50 3 = sumN (hr (vS μ c) 1) g → Tot e_X1_sendAll K 12 [mO 1 50, mO 7 c, mI (nI g)] [] μ' := by
    intro d
    induction d with
    | zero =>
      intro g μ' hg ha h2 h3
      have e : g = 8 := by omega
      subst e
      refine g_X1_sendAll_12 ?_
      rw [if_pos (show (8 : Int32) ≤ nI 8 by decide)]
      exact hK μ' ha h2 h3
    | succ d ih =>
      intro g μ' hg ha h2 h3
      refine g_X1_sendAll_12 ?_
      have h8 : ¬ (8 : Int32) ≤ nI g := i_not_le_of_lt (show nI g < nI 8 from nI_lt (by omega) (by omega))
      rw [if_neg h8]
      have ev : vS μ' c = vS μ c := vS_congr fun d hd => ha _ (hc d hd)
      refine c_comes ?_
      rw [vI_mI, ite_b, ev]
      have s2 : sumN (hr (vS μ c) 0) (g + 1) = sumN (hr (vS μ c) 0) g + hr (vS μ c) 0 g := rfl
      have s3 : sumN (hr (vS μ c) 1) (g + 1) = sumN (hr (vS μ c) 1) g + hr (vS μ c) 1 g := rfl
      cases hb : cmB (vS μ c) (nI g) with
      | false =>
        rw [cond_false, nI_1]
        refine ih (g + 1) μ' (by omega) ha ?_ ?_
        · rw [s2, h2, hr, hb, cond_false]; exact (Int32.add_zero _).symm
        · rw [s3, h3, hr, hb, cond_false]; exact (Int32.add_zero _).symm
      | true =>
        rw [cond_true]
        refine c_send (by rw [ev]; exact hw) hc (by omega) ?_
        rw [ev]
        obtain ⟨b1, b2⟩ := OV_b (v := vS μ c) (g := g)
        have h6 := hw.1.2.1
        have q2 : hr (vS μ c) 0 g = fr (μ c 1) (μ c 2) (OV (vS μ c) g).2.1 := by
          rw [hr, hb, cond_true, if_pos rfl]; rfl
        have q3 : hr (vS μ c) 1 g = fr (μ c 4) (μ c 2) ((OV (vS μ c) g).2.2 - (OV (vS μ c) g).2.1) := by
          rw [hr, hb, cond_true, if_neg (by decide)]; rfl
        generalize OV (vS μ c) g = s at b1 b2 q2 q3 ⊢
        rw [mT_0]
        refine c_price (by omega) ?_
        rw [vI_mI, mS_c hc0, mS_k (by decide), mS_k (by decide), mT_0, mT_1, nI_sub b1]
        refine c_price (by omega) ?_
        rw [vI_mI, mS_c hc0, mT_c hc0, ha c hc0, nI_1]
        rw [mS_k (by decide), mT_k (by decide) (by decide), mT_k (by decide) (by decide)]
        refine ih (g + 1) _ (by omega) (fun c' h' => ?_) ?_ ?_
        · rw [mS_c h', mS_c h', mT_c h', ha c' h']
        · rw [mS_k (by decide), mS_eq, s2, h2, q2]
        · rw [mS_eq, s3, h3, q3]
  refine lp 8 0 _ (by omega) (fun c' h' => by rw [mS_c h', mS_c h']) ?_ ?_
  · rw [mS_k (by decide), mS_eq]; rfl
  · rw [mS_eq]; rfl
theorem d_takenBy {μ : Mm} {K : MV → Mm → Prop} {x : Int32} {s : Nat} (hx : x = 0 ↔ s = 0) (hw : Wb (vM μ)) (hs : W9 (vM μ)) (hK : ∀ μ', AgM μ μ' → (∀ c, c ≠ 55 → μ' c = μ c) → K (mI (HS (vM μ) s)) μ') : s_X10_takenBy [mO 9 55, mI x] μ K := by
  refine g_X10_takenBy ?_
  have lp : ∀ (d g : Nat) (μ' : Mm), g + d = 8 → AgM μ μ' → (∀ c, c ≠ 55 → μ' c = μ c) → Tot e_X10_takenBy K 4 [mO 9 55, mI x, mI (sumN (hr (vM μ) s) g), mI (nI g)] [] μ' := by
    intro d
    induction d with
    | zero =>
      intro g μ' hg ha hcc
      have e : g = 8 := by omega
      subst e
      refine g_X10_takenBy_4 ?_
      rw [if_pos (show (8 : Int32) ≤ nI 8 by decide)]
      exact hK μ' ha hcc
    | succ d ih =>
      intro g μ' hg ha hcc
      refine g_X10_takenBy_4 ?_
      have h8 : ¬ (8 : Int32) ≤ nI g := i_not_le_of_lt (show nI g < nI 8 from nI_lt (by omega) (by omega))
      rw [if_neg h8]
      refine d_has ?_
      have s2 : sumN (hr (vM μ) s) (g + 1) = sumN (hr (vM μ) s) g + hr (vM μ) s g := rfl
      have hcm : decide ((μ' 55 1 >>> (nI g &&& 31)) &&& 1 = 1) = cmB (vM μ) (nI g) := by
        rw [cmB_8 (by omega), ha 55 1 rfl]; rfl
      rw [vI_mI, ite_b, hcm]
      cases hb : cmB (vM μ) (nI g) with
      | false =>
        rw [cond_false, nI_1]
        have := ih (g + 1) μ' (by omega) ha hcc
        rw [s2, hr, hb, cond_false, show sumN (hr (vM μ) s) g + 0 = sumN (hr (vM μ) s) g from Int32.add_zero _] at this
        exact this
      | true =>
        rw [cond_true]
        refine d_goOver (by rw [ha.vM]; exact hw) (by rw [ha.vM]; exact hs) (by omega) ?_
        rw [ha.vM]
        have ha2 : AgM μ (mT μ' 55 21 22 (OV (vM μ) g)) := (ha.st rfl).st rfl
        obtain ⟨b1, b2⟩ := OV_b (v := vM μ) (g := g)
        have h6 := hw.1.2.1
        have e21 : mT μ' 55 21 22 (OV (vM μ) g) 55 21 = nI (OV (vM μ) g).2.1 := by unfold mT; rw [mS_k (by decide), mS_eq]
        have e22 : mT μ' 55 21 22 (OV (vM μ) g) 55 22 = nI (OV (vM μ) g).2.2 := by unfold mT; rw [mS_eq]
        split
        · rename_i q
          rw [e21, ha2 55 2 rfl]
          refine d_faresOf (by rw [ha2.vM]; exact hs) (by omega) ?_
          rw [vI_mI, ha2 55 3 rfl, nI_1]
          have := ih (g + 1) _ (by omega) ha2 (fun c z => by rw [mT_c z, hcc c z])
          rw [s2, hr, hb, cond_true, if_pos (hx.mp q)] at this
          exact this
        · rename_i q
          rw [e21, e22, ha2 55 5 rfl, nI_sub b1]
          refine d_faresOf (by rw [ha2.vM]; exact hs) (by omega) ?_
          rw [vI_mI, ha2 55 3 rfl, nI_1]
          have := ih (g + 1) _ (by omega) ha2 (fun c z => by rw [mT_c z, hcc c z])
          rw [s2, hr, hb, cond_true, if_neg (fun z => q (hx.mpr z))] at this
          exact this
  exact lp 8 0 μ (by omega) (AgM.rf μ) (fun _ _ => rfl)
theorem call_both {μ : Mm} (r : Rl μ) (a : Int32) : s_X9_both [mO 8 0, mI a] μ (fun v1 μ1 => s_X10_both [mO 9 55, mI a] μ1 (fun v2 μ2 => Gd v1 v2 μ2)) := by
  refine g_X9_both (c_within ?_)
  rw [vI_mI, ite_b]
  cases hb : decide (0 ≤ a ∧ a ≤ 1) with
  | false =>
    rw [cond_false]
    refine g_X10_both (d_in ?_)
    rw [vI_mI, ite_b, hb]
    exact ⟨rfl, r⟩
  | true =>
    rw [cond_true]
    refine c_sendAll (by rw [r.v]; exact r.wb) (fun d hd => by omega) fun μ1 ha h2 h3 => ?_
    rw [r.v] at h2 h3
    have hx : AgX μ μ1 := fun c k e => by
      rw [ha c (fun z => by subst z; cases e)]
    have r2 : Rl μ1 := hx.Rl r
    have ref : ∀ (s : Nat) (v1 : MV), (a = 0 ↔ s = 0) → v1 = mI (HS (vM μ) s) → s_X10_both [mO 9 55, mI a] μ1 (fun v2 μ2 => Gd v1 v2 μ2) := by
      intro s v1 hs hv1
      refine g_X10_both (d_in ?_)
      rw [vI_mI, ite_b, hb, cond_true]
      refine d_takenBy hs r2.wb r2.w9 fun μ2 ha2 _ => ⟨?_, ha2.Rl r2⟩
      rw [vI_mI, hx.vM, hv1]
    split
    · rename_i q
      exact ref 0 _ ⟨fun _ => rfl, fun _ => q⟩ (by rw [h2])
    · rename_i q
      exact ref 1 _ ⟨fun z => absurd z q, fun z => absurd z (by decide)⟩ (by rw [h3])
end
section
/-! ===== two houses: the fares that rest ===== -/
def bv (v : Vw) (x y : Int32) : Vw := mS (mS v 0 2 x) 0 5 y
theorem bv_bv {v : Vw} {x y x' y' : Int32} : bv (bv v x y) x' y' = bv v x' y' := by
  unfold bv
  rw [mS_comm (c := 0) (k := 5) (c' := 0) (k' := 2) (by decide), mS_mS, mS_mS]
theorem bv_wb {v : Vw} {x y : Int32} (h : Wb v) : Wb (bv v x y) := h
theorem bv_w9 {v : Vw} {x y : Int32} (h : W9 v) : W9 (bv v x y) := h
def RB (v : Vw) (s k : Nat) : Int32 := HS (bv v (nI (k / 10)) (nI (k % 10))) s
def rt (v : Vw) (k : Nat) : Nat → Bool
  | 0 => true
  | j + 1 => rt v k j && (decide (RB v 0 (j * 10 + k % 10) ≤ RB v 0 k) && decide (RB v 1 (k / 10 * 10 + j) ≤ RB v 1 k))
theorem rt_mono {v : Vw} {k : Nat} : ∀ (d j : Nat), rt v k j = false → rt v k (j + d) = false
  | 0, _, h => h
  | d + 1, j, h => by
    show (rt v k (j + d) && _) = false
    rw [rt_mono d j h]
    rfl
def rs (v : Vw) (a : Int32) : Nat → Nat → Int32 → Int32
  | 0, _, l => if a = -1 then l else -6
  | d + 1, k, l => bif rt v k 10 then (if l = a then nI k else rs v a d (k + 1) (l + 1)) else rs v a d (k + 1) l
theorem l10 (j t : Nat) : nI j * 10 + nI t = nI (j * 10 + t) := by
  rw [show (10 : Int32) = nI 10 from rfl, nI_mul, nI_add]
theorem c_bothRest {μ : Mm} {K : MV → Mm → Prop} {v : Vw} {k : Nat} (hk : k < 100) (h1 : ∀ i, i < 100 → μ 51 i = RB v 0 i) (h2 : ∀ i, i < 100 → μ 52 i = RB v 1 i) (hK : K (mI (bI (rt v k 10))) μ) : s_X1_bothRest [mO 1 50, mI (nI k)] μ K := by
  refine g_X1_bothRest ⟨by decide, by decide, ?_⟩
  obtain ⟨d1, d2⟩ := dm10 k (by omega)
  rw [d2, d1]
  have lp : ∀ (d j : Nat) (z5 z6 : MV), j + d = 10 → rt v k j = true → Tot e_X1_bothRest K 13 [mO 1 50, mI (nI k), mI (nI (k / 10)), mI (nI (k % 10)), mI (nI j), z5, z6] [] μ := by
    intro d
    induction d with
    | zero =>
      intro j z5 z6 hj ht
      have e : j = 10 := by omega
      subst e
      refine g_X1_bothRest_13 ?_
      rw [if_pos (show (10 : Int32) ≤ nI 10 by decide)]
      rw [ht] at hK
      exact ⟨zb1, hK⟩
    | succ d ih =>
      intro j z5 z6 hj ht
      refine g_X1_bothRest_13 ?_
      rw [if_neg (show ¬ (10 : Int32) ≤ nI j from nI_ge (b := 10) (by omega) (by omega)), l10]
      refine c_at (by omega) (by decide) (c_at hk (by decide) ?_)
      rw [vI_mI, vI_mI, h1 _ (by omega), h1 _ hk]
      have hs : rt v k (j + 1) = (rt v k j && (decide (RB v 0 (j * 10 + k % 10) ≤ RB v 0 k) && decide (RB v 1 (k / 10 * 10 + j) ≤ RB v 1 k))) := rfl
      rw [ht, Bool.true_and] at hs
      have no : rt v k (j + 1) = false → K (mI 0) μ := fun e => by
        have := rt_mono (v := v) (k := k) (10 - (j + 1)) (j + 1) e
        rw [show j + 1 + (10 - (j + 1)) = 10 by omega] at this
        rw [this] at hK
        exact hK
      split
      · rename_i q
        rw [decide_eq_true q, Bool.true_and] at hs
        rw [l10]
        refine c_at (by omega) (by decide) (c_at hk (by decide) ?_)
        rw [vI_mI, vI_mI, h2 _ (by omega), h2 _ hk]
        split
        · rename_i q2
          rw [decide_eq_true q2] at hs
          rw [nI_1]
          exact ih (j + 1) _ _ (by omega) hs
        · rename_i q2
          rw [decide_eq_false q2] at hs
          exact ⟨zb0, no hs⟩
      · rename_i q
        rw [decide_eq_false q, Bool.false_and] at hs
        rw [l10]
        refine c_at (by omega) (by decide) (c_at hk (by decide) ?_)
        split
        · exact ⟨zb0, no hs⟩
        · exact ⟨zb0, no hs⟩
  exact lp 10 0 mU mU rfl rfl
theorem c_rests {μ : Mm} {K : MV → Mm → Prop} {v : Vw} {a : Int32} (hw : Wb v) (hv : vS μ 13 = v) (hK : ∀ μ', AgX μ μ' → K (mI (rs v a 100 0 0)) μ') : s_X1_restingBases [mO 1 50, mO 7 13, mI a] μ K := by
  refine g_X1_restingBases ?_
  have scan : ∀ (μ' : Mm), AgX μ μ' → (∀ i, i < 100 → μ' 51 i = RB v 0 i) → (∀ i, i < 100 → μ' 52 i = RB v 1 i) → ∀ (d k : Nat) (l : Int32), k + d = 100 → rs v a d k l = rs v a 100 0 0 → Tot e_X1_restingBases K 64 [mO 1 50, mO 7 13, mI a, mI l, mI (nI k)] [] μ' := by
    intro μ' ha h1 h2 d
    induction d with
    | zero =>
      intro k l hk hr
      have e : k = 100 := by omega
      subst e
      refine g_X1_restingBases_64 ?_
      rw [if_pos (show (100 : Int32) ≤ nI 100 by decide)]
      have hr' : (if a = -1 then l else -6) = rs v a 100 0 0 := hr
      have hK := hK μ' ha
      rw [← hr'] at hK
      split
      · rename_i q; rw [if_pos q] at hK; exact hK
      · rename_i q; rw [if_neg q] at hK; exact hK
    | succ d ih =>
      intro k l hk hr
      have hr' : (bif rt v k 10 then (if l = a then nI k else rs v a d (k + 1) (l + 1)) else rs v a d (k + 1) l) = rs v a 100 0 0 := hr
      refine g_X1_restingBases_64 ?_
      rw [if_neg (show ¬ (100 : Int32) ≤ nI k from nI_ge (b := 100) (by omega) (by omega))]
      refine c_bothRest (v := v) (by omega) h1 h2 ?_
      rw [vI_mI, ite_b, nI_1]
      cases ht : rt v k 10 with
      | false =>
        rw [ht, cond_false] at hr'
        exact ih (k + 1) l (by omega) hr'
      | true =>
        rw [ht, cond_true] at hr'
        rw [cond_true]
        split
        · rename_i q
          rw [if_pos q] at hr'
          have hK := hK μ' ha
          rw [← hr'] at hK
          exact hK
        · rename_i q
          rw [if_neg q] at hr'
          exact ih (k + 1) (l + 1) (by omega) hr'
  have lp : ∀ (d k : Nat) (μ' : Mm), k + d = 100 → AgX μ μ' → (∀ x y, bv (vS μ' 13) x y = bv v x y) → (∀ i, i < k → μ' 51 i = RB v 0 i) → (∀ i, i < k → μ' 52 i = RB v 1 i) → Tot e_X1_restingBases K 2 [mO 1 50, mO 7 13, mI a, mI (nI k), mU] [] μ' := by
    intro d
    induction d with
    | zero =>
      intro k μ' hk ha hq h1 h2
      have e : k = 100 := by omega
      subst e
      refine g_X1_restingBases_2 ?_
      rw [if_pos (show (100 : Int32) ≤ nI 100 by decide)]
      exact scan μ' ha h1 h2 100 0 0 rfl rfl
    | succ d ih =>
      intro k μ' hk ha hq h1 h2
      refine g_X1_restingBases_2 ?_
      rw [if_neg (show ¬ (100 : Int32) ≤ nI k from nI_ge (b := 100) (by omega) (by omega))]
      refine ⟨by decide, by decide, ?_⟩
      obtain ⟨d1, d2⟩ := dm10 k (by omega)
      rw [d2, d1]
      have ev : vS (mS (mS μ' 13 1 (nI (k / 10))) 13 4 (nI (k % 10))) 13 = bv v (nI (k / 10)) (nI (k % 10)) := by
        rw [vS_there, vS_base]
        exact hq _ _
      refine c_sendAll (by rw [ev]; exact bv_wb hw) (fun d hd => by omega) fun μ1 hc e2 e3 => ?_
      rw [ev] at e2 e3
      rw [e2]
      refine c_put (by omega) (by decide) ?_
      rw [mS_c (by decide), e3]
      refine c_put (by omega) (by decide) ?_
      rw [nI_1]
      have hx : AgX μ μ1 := fun c j e => by
        rw [hc c (fun z => by subst z; cases e), mS_c (fun z => by subst z; cases e), mS_c (fun z => by subst z; cases e)]
        exact ha c j e
      have r2 : HS (bv v (nI (k / 10)) (nI (k % 10))) 0 = RB v 0 k := rfl
      have r3 : HS (bv v (nI (k / 10)) (nI (k % 10))) 1 = RB v 1 k := rfl
      rw [r2, r3]
      refine ih (k + 1) _ (by omega) ((hx.st rfl).st rfl) (fun x y => ?_) (fun i hi => ?_) (fun i hi => ?_)
      · have e13 : vS (mS (mS μ1 51 k (RB v 0 k)) 52 k (RB v 1 k)) 13 = vS (mS (mS μ' 13 1 (nI (k / 10))) 13 4 (nI (k % 10))) 13 := vS_congr fun d hd => by
          rw [mS_c (by omega), mS_c (by omega), hc _ (by omega)]
        rw [e13, ev, bv_bv]
      · rw [mS_c (by decide)]
        by_cases e : i = k
        · subst e; rw [mS_eq]
        · rw [mS_k e, hc 51 (by decide), mS_c (by decide), mS_c (by decide)]
          exact h1 i (by omega)
      · by_cases e : i = k
        · subst e; rw [mS_eq]
        · rw [mS_k e, mS_c (by decide), hc 52 (by decide), mS_c (by decide), mS_c (by decide)]
          exact h2 i (by omega)
  exact lp 100 0 μ rfl (AgX.rf μ) (fun x y => by rw [hv]) (fun i hi => absurd hi (Nat.not_lt_zero i)) (fun i hi => absurd hi (Nat.not_lt_zero i))
/-- but for the reference's scratch and the two bases -/
def Ag2 (μ μ' : Mm) : Prop := ∀ c k, sMb c k = false → ¬ (c = 55 ∧ (k = 2 ∨ k = 5)) → μ' c k = μ c k
theorem d_rests {μ : Mm} {K : MV → Mm → Prop} {a : Int32} (hw : Wb (vM μ)) (h9 : W9 (vM μ)) (hK : ∀ μ', AgM μ μ' → K (mI (rs (vM μ) a 100 0 0)) μ') : s_X10_rests [mO 9 55, mI a] μ K := by
  refine g_X10_rests ?_
  generalize hv : vM μ = v at hw h9 hK
  have row : ∀ (μ' : Mm), AgM μ μ' → (∀ i, i < 100 → μ' 68 (2 * i) = RB v 0 i) → (∀ i, i < 100 → μ' 68 (2 * i + 1) = RB v 1 i) → ∀ (k : Nat) (l : Int32), k < 100 →
      (∀ z6 z7, rt v k 10 = false → Tot e_X10_rests K 90 [mO 9 55, mI a, mI (μ 55 2), mI (μ 55 5), mI l, mI (nI (k + 1)), z6, z7] [] μ') →
      (rt v k 10 = true → l = a → K (mI (nI k)) μ') →
      (∀ z6 z7, rt v k 10 = true → ¬ l = a → Tot e_X10_rests K 90 [mO 9 55, mI a, mI (μ 55 2), mI (μ 55 5), mI (l + 1), mI (nI (k + 1)), z6, z7] [] μ') →
      ∀ (d j : Nat), j + d = 10 → Tot e_X10_rests K 103 [mO 9 55, mI a, mI (μ 55 2), mI (μ 55 5), mI l, mI (nI k), mI (bI (rt v k j)), mI (nI j)] [] μ' := by
    intro μ' ha h1 h2 k l hk hA hB hC d
    obtain ⟨d1, d2⟩ := dm10 k (by omega)
    have d3 : nI k - nI (k % 10) = nI (k / 10 * 10) := by
      rw [nI_sub (Nat.mod_le k 10)]
      congr 1
      omega
    induction d with
    | zero =>
      intro j hj
      have e : j = 10 := by omega
      subst e
      refine g_X10_rests_103 ?_
      rw [if_pos (show (10 : Int32) ≤ nI 10 by decide), ite_b]
      cases ht : rt v k 10 with
      | false =>
        rw [cond_false, nI_1]
        exact hA _ _ ht
      | true =>
        rw [cond_true]
        split
        · rename_i q
          exact hB ht q
        · rename_i q
          rw [nI_1]
          exact hC _ _ ht q
    | succ d ih =>
      intro j hj
      refine g_X10_rests_103 ?_
      rw [if_neg (show ¬ (10 : Int32) ≤ nI j from nI_ge (b := 10) (by omega) (by omega)), ite_b]
      have hs : rt v k (j + 1) = (rt v k j && (decide (RB v 0 (j * 10 + k % 10) ≤ RB v 0 k) && decide (RB v 1 (k / 10 * 10 + j) ≤ RB v 1 k))) := rfl
      have ih := ih (j + 1) (by omega)
      have z0 : (0 : Int32) = 0 := rfl
      have z1 : ¬ (1 : Int32) = 0 := by decide
      rw [nI_1]
      cases ht : rt v k j with
      | false =>
        rw [cond_false, if_pos z0]
        rw [hs, ht, Bool.false_and] at ih
        exact ih
      | true =>
        rw [cond_true]
        rw [ht, Bool.true_and] at hs
        have x1 : (2 : Int32) * ((10 : Int32) * nI j + (nI k - nI k / 10 * 10)) = nI (2 * (j * 10 + k % 10)) := by
          rw [d2, show (10 : Int32) * nI j = nI 10 * nI j from rfl, nI_mul, nI_add, show (2 : Int32) = nI 2 from rfl, nI_mul, Nat.mul_comm 10 j]
        have x2 : (2 : Int32) * nI k = nI (2 * k) := by rw [show (2 : Int32) = nI 2 from rfl, nI_mul]
        have x3 : ((2 : Int32) * ((nI k - (nI k - nI k / 10 * 10)) + nI j)) + 1 = nI (2 * (k / 10 * 10 + j) + 1) := by
          rw [d2, d3, nI_add, show (2 : Int32) = nI 2 from rfl, nI_mul, nI_1]
        have x4 : ((2 : Int32) * nI k) + 1 = nI (2 * k + 1) := by rw [x2, nI_1]
        rw [x1, x4, x3, x2]
        rw [nI_clamp (by omega), nI_clamp (by omega), nI_clamp (by omega), nI_clamp (by omega)]
        rw [h1 (j * 10 + k % 10) (by omega), h1 k hk, h2 (k / 10 * 10 + j) (by omega), h2 k hk]
        refine ⟨by decide, vi_nI (by omega) (by decide), vi_nI (by omega) (by decide), ?_⟩
        split
        · rename_i q
          rw [decide_eq_false (i_not_le_of_lt q), Bool.false_and] at hs
          rw [hs] at ih
          exact ih
        · rename_i q
          rw [decide_eq_true (i_le_of_not_lt q), Bool.true_and] at hs
          refine ⟨by decide, vi_nI (by omega) (by decide), vi_nI (by omega) (by decide), ?_⟩
          split
          · rename_i q2
            rw [decide_eq_false (i_not_le_of_lt q2)] at hs
            rw [hs] at ih
            exact ih
          · rename_i q2
            rw [decide_eq_true (i_le_of_not_lt q2)] at hs
            rw [hs] at ih
            exact ih
  have scan : ∀ (μ' : Mm), AgM μ μ' → (∀ i, i < 100 → μ' 68 (2 * i) = RB v 0 i) → (∀ i, i < 100 → μ' 68 (2 * i + 1) = RB v 1 i) → ∀ (d k : Nat) (l : Int32) (z6 z7 : MV), k + d = 100 → rs v a d k l = rs v a 100 0 0 → Tot e_X10_rests K 90 [mO 9 55, mI a, mI (μ 55 2), mI (μ 55 5), mI l, mI (nI k), z6, z7] [] μ' := by
    intro μ' ha h1 h2 d
    induction d with
    | zero =>
      intro k l z6 z7 hk hr
      have e : k = 100 := by omega
      subst e
      refine g_X10_rests_90 ?_
      rw [if_pos (show (100 : Int32) ≤ nI 100 by decide)]
      have hr' : (if a = -1 then l else -6) = rs v a 100 0 0 := hr
      have hK := hK μ' ha
      rw [← hr'] at hK
      split
      · rename_i q; rw [if_pos q] at hK; exact hK
      · rename_i q; rw [if_neg q] at hK; exact hK
    | succ d ih =>
      intro k l z6 z7 hk hr
      have hr' : (bif rt v k 10 then (if l = a then nI k else rs v a d (k + 1) (l + 1)) else rs v a d (k + 1) l) = rs v a 100 0 0 := hr
      refine g_X10_rests_90 ?_
      rw [if_neg (show ¬ (100 : Int32) ≤ nI k from nI_ge (b := 100) (by omega) (by omega))]
      refine row μ' ha h1 h2 k l (by omega) (fun y6 y7 ht => ?_) (fun ht q => ?_) (fun y6 y7 ht q => ?_) 10 0 rfl
      · rw [ht, cond_false] at hr'
        exact ih (k + 1) l _ _ (by omega) hr'
      · rw [ht, cond_true, if_pos q] at hr'
        have hK := hK μ' ha
        rw [← hr'] at hK
        exact hK
      · rw [ht, cond_true, if_neg q] at hr'
        exact ih (k + 1) (l + 1) _ _ (by omega) hr'
  have lp : ∀ (d k : Nat) (μ' : Mm), k + d = 100 → Ag2 μ μ' → (∀ x y, bv (vM μ') x y = bv v x y) → W9 (vM μ') → (∀ i, i < k → μ' 68 (2 * i) = RB v 0 i) → (∀ i, i < k → μ' 68 (2 * i + 1) = RB v 1 i) → Tot e_X10_rests K 13 [mO 9 55, mI a, mI (μ 55 2), mI (μ 55 5), mI (nI k), mU, mU, mU] [] μ' := by
    intro d
    induction d with
    | zero =>
      intro k μ' hk ha hq h9 h1 h2
      have e : k = 100 := by omega
      subst e
      refine g_X10_rests_13 ?_
      rw [if_pos (show (100 : Int32) ≤ nI 100 by decide)]
      refine scan _ (fun c k e => ?_) (fun i hi => ?_) (fun i hi => ?_) 100 0 0 _ _ rfl rfl
      · by_cases e5 : c = 55 ∧ k = 5
        · rw [e5.1, e5.2, mS_eq]
        · rw [mS_ne e5]
          by_cases e2 : c = 55 ∧ k = 2
          · rw [e2.1, e2.2, mS_eq]
          · rw [mS_ne e2]
            exact ha c k e (fun z => z.2.elim (fun y => e2 ⟨z.1, y⟩) (fun y => e5 ⟨z.1, y⟩))
      · rw [mS_c (by decide), mS_c (by decide)]; exact h1 i hi
      · rw [mS_c (by decide), mS_c (by decide)]; exact h2 i hi
    | succ d ih =>
      intro k μ' hk ha hq h9 h1 h2
      refine g_X10_rests_13 ?_
      rw [if_neg (show ¬ (100 : Int32) ≤ nI k from nI_ge (b := 100) (by omega) (by omega))]
      refine ⟨by decide, by decide, ?_⟩
      obtain ⟨d1, d2⟩ := dm10 k (by omega)
      rw [d2, d1]
      have ev : vM (mS (mS μ' 55 2 (nI (k / 10))) 55 5 (nI (k % 10))) = bv v (nI (k / 10)) (nI (k % 10)) := by
        rw [vM_there, vM_base]
        exact hq _ _
      have w9 : W9 (bv v (nI (k / 10)) (nI (k % 10))) := by
        rw [← hq]
        exact bv_w9 h9
      refine d_takenBy (s := 0) ⟨fun _ => rfl, fun _ => rfl⟩ (by rw [ev]; exact bv_wb hw) (by rw [ev]; exact w9) fun μ1 ha1 hc1 => ?_
      have x2 : (2 : Int32) * nI k = nI (2 * k) := by rw [show (2 : Int32) = nI 2 from rfl, nI_mul]
      rw [ev, vI_mI, x2, nI_clamp (by omega)]
      refine ⟨vi_nI (by omega) (by decide), ?_⟩
      have ha2 : AgM (mS (mS μ' 55 2 (nI (k / 10))) 55 5 (nI (k % 10))) (mS μ1 68 (2 * k) (HS (bv v (nI (k / 10)) (nI (k % 10))) 0)) := ha1.st rfl
      refine d_takenBy (s := 1) ⟨fun z => absurd z (by decide), fun z => absurd z (by decide)⟩ (by rw [ha2.vM, ev]; exact bv_wb hw) (by rw [ha2.vM, ev]; exact w9) fun μ2 ha3 hc3 => ?_
      rw [ha2.vM, ev, vI_mI, nI_1, nI_1, nI_clamp (by omega)]
      refine ⟨vi_nI (by omega) (by decide), ?_⟩
      have ha4 : AgM (mS (mS μ' 55 2 (nI (k / 10))) 55 5 (nI (k % 10))) (mS μ2 68 (2 * k + 1) (HS (bv v (nI (k / 10)) (nI (k % 10))) 1)) := (ha2.tr ha3).st rfl
      have e68 : μ2 68 = mS μ1 68 (2 * k) (HS (bv v (nI (k / 10)) (nI (k % 10))) 0) 68 := hc3 68 (by decide)
      have e68' : μ1 68 = μ' 68 := by rw [hc1 68 (by decide), mS_c (by decide), mS_c (by decide)]
      refine ih (k + 1) _ (by omega) (fun c j e hne => ?_) (fun x y => ?_) ?_ (fun i hi => ?_) (fun i hi => ?_)
      · rw [ha4 c j e, mS_ne (fun z => hne ⟨z.1, Or.inr z.2⟩), mS_ne (fun z => hne ⟨z.1, Or.inl z.2⟩)]
        exact ha c j e hne
      · rw [ha4.vM, ev, bv_bv]
      · rw [ha4.vM, ev]; exact w9
      · rw [mS_k (by omega), e68]
        by_cases e : i = k
        · subst e; rw [mS_eq]; rfl
        · rw [mS_k (by omega), e68']
          exact h1 i (by omega)
      · by_cases e : i = k
        · subst e; rw [mS_eq]; rfl
        · rw [mS_k (by omega), e68, mS_k (by omega), e68']
          exact h2 i (by omega)
  exact lp 100 0 μ rfl (fun _ _ _ _ => rfl) (fun x y => by rw [hv]) (by rw [hv]; exact h9) (fun i hi => absurd hi (Nat.not_lt_zero i)) (fun i hi => absurd hi (Nat.not_lt_zero i))
theorem call_rests {μ : Mm} (r : Rl μ) (a : Int32) : s_X9_rests [mO 8 0, mI a] μ (fun v1 μ1 => s_X10_rests [mO 9 55, mI a] μ1 (fun v2 μ2 => Gd v1 v2 μ2)) := by
  refine g_X9_rests (c_tried fun μ1 ha1 hv1 _ => ?_)
  refine c_rests (v := vM μ) r.wb (by rw [hv1, r.v]) fun μ2 ha2 => ?_
  have r3 : Rl μ2 := ha2.Rl (ha1.Rl r)
  refine d_rests r3.wb r3.w9 fun μ3 ha3 => ⟨?_, ha3.Rl r3⟩
  rw [ha2.vM, ha1.vM]
  rfl
end
section
/-! ===== images ===== -/
def img (μ : Mm) (i : Nat) : Int32 := if i < 48 then μ 56 i else if i < 54 then μ 57 (i - 48) else if i < 60 then μ 58 (i - 54) else if i < 66 then μ 59 (i - 60) else if i < 84 then μ 61 (i - 66) else if i = 84 then μ 55 0 else if i = 85 then μ 55 1 else if i = 86 then μ 55 2 else if i = 87 then μ 55 3 else if i = 88 then μ 55 4 else if i = 89 then μ 55 5 else if i = 90 then μ 55 11 else μ 60 (i - 91)
def Iv (μ : Mm) (o : Nat) (P : Nat → Prop) (μ' : Mm) : Prop := (∀ c, c ≠ 70 → μ' c = μ c) ∧ (∀ i, i < o ∨ o + 100 ≤ i → μ' 70 i = μ 70 i) ∧ ∀ i, i < 99 → P i → μ' 70 (o + i) = img μ i
theorem Iv.st {μ μ' : Mm} {o : Nat} {P Q : Nat → Prop} (h : Iv μ o P μ') {i0 : Nat} {x : Int32} (hi : i0 < 99) (hx : x = img μ i0) (hQ : ∀ i, Q i → i = i0 ∨ P i) : Iv μ o Q (mS μ' 70 (o + i0) x) := by
  refine ⟨fun c hc => ?_, fun i hr => ?_, fun i h9 hq => ?_⟩
  · rw [mS_c hc]; exact h.1 c hc
  · rw [mS_k (by omega)]; exact h.2.1 i hr
  · by_cases e : i = i0
    · subst e; rw [mS_eq]; exact hx
    · rw [mS_k (by omega)]
      exact h.2.2 i h9 ((hQ i hq).resolve_left e)
theorem img_0 {μ : Mm} {i : Nat} (h : i < 48) : μ 56 i = img μ i := by unfold img; rw [if_pos h]
theorem img_1 {μ : Mm} {i : Nat} (h : i < 6) : μ 57 i = img μ (48 + i) := by
  unfold img
  rw [if_neg (by omega), if_pos (by omega), show 48 + i - 48 = i by omega]
theorem img_2 {μ : Mm} {i : Nat} (h : i < 6) : μ 58 i = img μ (54 + i) := by
  unfold img
  rw [if_neg (by omega), if_neg (by omega), if_pos (by omega), show 54 + i - 54 = i by omega]
theorem img_3 {μ : Mm} {i : Nat} (h : i < 6) : μ 59 i = img μ (60 + i) := by
  unfold img
  rw [if_neg (by omega), if_neg (by omega), if_neg (by omega), if_pos (by omega), show 60 + i - 60 = i by omega]
theorem img_4 {μ : Mm} {i : Nat} (h : i < 18) : μ 61 i = img μ (66 + i) := by
  unfold img
  rw [if_neg (by omega), if_neg (by omega), if_neg (by omega), if_neg (by omega), if_pos (by omega), show 66 + i - 66 = i by omega]
theorem img_5 {μ : Mm} {i : Nat} : μ 60 i = img μ (91 + i) := by
  unfold img
  rw [if_neg (by omega), if_neg (by omega), if_neg (by omega), if_neg (by omega), if_neg (by omega), if_neg (by omega), if_neg (by omega), if_neg (by omega), if_neg (by omega), if_neg (by omega), if_neg (by omega), if_neg (by omega), show 91 + i - 91 = i by omega]
theorem oL (o i : Nat) (hi : o + i < 2 ^ 31) : (nI o + nI i).toNatClampNeg = o + i := by rw [nI_add, nI_clamp hi]
theorem d_image {μ : Mm} {K : MV → Mm → Prop} {a : Nat} (ha : a < 2) (hK : ∀ μ', Iv μ (100 * a) (fun _ => True) μ' → K (mI 1) (mS μ' 71 a 1)) : Tot e_X10_image K 19 [mO 9 55, mI (nI a), mI (nI (100 * a)), mI 0] [] μ := by
  generalize ho : 100 * a = o at hK ⊢
  have ho2 : o ≤ 100 := by omega
  have l4 : ∀ (d k : Nat) (μ' : Mm), k + d = 8 → Iv μ o (fun i => i < 84 ∨ (91 ≤ i ∧ i < 91 + k)) μ' → Tot e_X10_image K 143 [mO 9 55, mI (nI a), mI (nI o), mI (nI k)] [] μ' := by
    intro d
    induction d with
    | zero =>
      intro k μ' hk h
      have e : k = 8 := by omega
      subst e
      refine g_X10_image_143 ?_
      rw [if_pos (show (8 : Int32) ≤ nI 8 by decide)]
      have e84 : nI o + 84 = nI (o + 84) := nI_add o 84
      have e85 : nI o + 85 = nI (o + 85) := nI_add o 85
      have e86 : nI o + 86 = nI (o + 86) := nI_add o 86
      have e87 : nI o + 87 = nI (o + 87) := nI_add o 87
      have e88 : nI o + 88 = nI (o + 88) := nI_add o 88
      have e89 : nI o + 89 = nI (o + 89) := nI_add o 89
      have e90 : nI o + 90 = nI (o + 90) := nI_add o 90
      rw [e84, e85, e86, e87, e88, e89, e90]
      refine ⟨vi_nI (by omega) (by decide), vi_nI (by omega) (by decide), vi_nI (by omega) (by decide), vi_nI (by omega) (by decide), vi_nI (by omega) (by decide), vi_nI (by omega) (by decide), vi_nI (by omega) (by decide), ⟨zb1, vi_nI ha (by decide)⟩, ?_⟩
      rw [nI_clamp (by omega), nI_clamp (by omega), nI_clamp (by omega), nI_clamp (by omega), nI_clamp (by omega), nI_clamp (by omega), nI_clamp (by omega), nI_clamp (by omega)]
      simp (disch := decide) only [mS_c]
      rw [h.1 55 (by decide)]
      refine hK _ (Iv.st (P := fun i => i ≠ 90) (Iv.st (P := fun i => i ≠ 90 ∧ i ≠ 89) (Iv.st (P := fun i => i ≠ 90 ∧ i ≠ 89 ∧ i ≠ 88) (Iv.st (P := fun i => i ≠ 90 ∧ i ≠ 89 ∧ i ≠ 88 ∧ i ≠ 87) (Iv.st (P := fun i => i ≠ 90 ∧ i ≠ 89 ∧ i ≠ 88 ∧ i ≠ 87 ∧ i ≠ 86) (Iv.st (P := fun i => i ≠ 90 ∧ i ≠ 89 ∧ i ≠ 88 ∧ i ≠ 87 ∧ i ≠ 86 ∧ i ≠ 85) (Iv.st (P := fun i => i < 84 ∨ (91 ≤ i)) ?_ (by decide) rfl (fun i q => by omega)) (by decide) rfl (fun i q => by omega)) (by decide) rfl (fun i q => by omega)) (by decide) rfl (fun i q => by omega)) (by decide) rfl (fun i q => by omega)) (by decide) rfl (fun i q => by omega)) (by decide) rfl (fun i q => by omega))
      exact ⟨h.1, h.2.1, fun i h9 q => h.2.2 i h9 (by omega)⟩
    | succ d ih =>
      intro k μ' hk h
      refine g_X10_image_143 ?_
      rw [if_neg (show ¬ (8 : Int32) ≤ nI k from nI_ge (b := 8) (by omega) (by omega))]
      have e1 : (nI o + 91) + nI k = nI (o + (91 + k)) := by
        rw [show (91 : Int32) = nI 91 from rfl, nI_add, nI_add, Nat.add_assoc]
      rw [e1, nI_clamp (by omega), nI_clamp (by omega), h.1 60 (by decide), nI_1]
      refine ⟨vi_nI (by omega) (by decide), vi_nI (by omega) (by decide), ?_⟩
      exact ih (k + 1) _ (by omega) (h.st (by omega) img_5 (fun i q => by omega))
  have l3 : ∀ (d k : Nat) (μ' : Mm), k + d = 18 → Iv μ o (fun i => i < 66 + k) μ' → Tot e_X10_image K 112 [mO 9 55, mI (nI a), mI (nI o), mI (nI k)] [] μ' := by
    intro d
    induction d with
    | zero =>
      intro k μ' hk h
      have e : k = 18 := by omega
      subst e
      refine g_X10_image_112 ?_
      rw [if_pos (show (18 : Int32) ≤ nI 18 by decide)]
      exact l4 8 0 μ' rfl ⟨h.1, h.2.1, fun i h9 q => h.2.2 i h9 (by omega)⟩
    | succ d ih =>
      intro k μ' hk h
      refine g_X10_image_112 ?_
      rw [if_neg (show ¬ (18 : Int32) ≤ nI k from nI_ge (b := 18) (by omega) (by omega))]
      have e1 : (nI o + 66) + nI k = nI (o + (66 + k)) := by
        rw [show (66 : Int32) = nI 66 from rfl, nI_add, nI_add, Nat.add_assoc]
      rw [e1, nI_clamp (by omega), nI_clamp (by omega), h.1 61 (by decide), nI_1]
      refine ⟨vi_nI (by omega) (by decide), vi_nI (by omega) (by decide), ?_⟩
      exact ih (k + 1) _ (by omega) (h.st (by omega) (img_4 (by omega)) (fun i q => by omega))
  have l2 : ∀ (d k : Nat) (μ' : Mm), k + d = 6 → Iv μ o (fun i => i < 48 + k ∨ (54 ≤ i ∧ i < 54 + k) ∨ (60 ≤ i ∧ i < 60 + k)) μ' → Tot e_X10_image K 47 [mO 9 55, mI (nI a), mI (nI o), mI (nI k)] [] μ' := by
    intro d
    induction d with
    | zero =>
      intro k μ' hk h
      have e : k = 6 := by omega
      subst e
      refine g_X10_image_47 ?_
      rw [if_pos (show (6 : Int32) ≤ nI 6 by decide)]
      exact l3 18 0 μ' rfl ⟨h.1, h.2.1, fun i h9 q => h.2.2 i h9 (by omega)⟩
    | succ d ih =>
      intro k μ' hk h
      refine g_X10_image_47 ?_
      rw [if_neg (show ¬ (6 : Int32) ≤ nI k from nI_ge (b := 6) (by omega) (by omega))]
      have e1 : (nI o + 48) + nI k = nI (o + (48 + k)) := by
        rw [show (48 : Int32) = nI 48 from rfl, nI_add, nI_add, Nat.add_assoc]
      have e2 : (nI o + 54) + nI k = nI (o + (54 + k)) := by
        rw [show (54 : Int32) = nI 54 from rfl, nI_add, nI_add, Nat.add_assoc]
      have e3 : (nI o + 60) + nI k = nI (o + (60 + k)) := by
        rw [show (60 : Int32) = nI 60 from rfl, nI_add, nI_add, Nat.add_assoc]
      rw [e1, e2, e3, nI_clamp (by omega), nI_clamp (by omega), nI_clamp (by omega), nI_clamp (by omega), nI_1]
      simp (disch := decide) only [mS_c]
      rw [h.1 57 (by decide), h.1 58 (by decide), h.1 59 (by decide)]
      refine ⟨vi_nI (by omega) (by decide), vi_nI (by omega) (by decide), vi_nI (by omega) (by decide), vi_nI (by omega) (by decide), vi_nI (by omega) (by decide), vi_nI (by omega) (by decide), ?_⟩
      refine ih (k + 1) _ (by omega) (Iv.st (P := fun i => i < 48 + (k + 1) ∨ (54 ≤ i ∧ i < 54 + (k + 1)) ∨ (60 ≤ i ∧ i < 60 + k)) (Iv.st (P := fun i => i < 48 + (k + 1) ∨ (54 ≤ i ∧ i < 54 + k) ∨ (60 ≤ i ∧ i < 60 + k)) (h.st (by omega) (img_1 (by omega)) (fun i q => by omega)) (by omega) (img_2 (by omega)) (fun i q => by omega)) (by omega) (img_3 (by omega)) (fun i q => by omega))
  have l1 : ∀ (d k : Nat) (μ' : Mm), k + d = 48 → Iv μ o (fun i => i < k) μ' → Tot e_X10_image K 19 [mO 9 55, mI (nI a), mI (nI o), mI (nI k)] [] μ' := by
    intro d
    induction d with
    | zero =>
      intro k μ' hk h
      have e : k = 48 := by omega
      subst e
      refine g_X10_image_19 ?_
      rw [if_pos (show (48 : Int32) ≤ nI 48 by decide)]
      exact l2 6 0 μ' rfl ⟨h.1, h.2.1, fun i h9 q => h.2.2 i h9 (by omega)⟩
    | succ d ih =>
      intro k μ' hk h
      refine g_X10_image_19 ?_
      rw [if_neg (show ¬ (48 : Int32) ≤ nI k from nI_ge (b := 48) (by omega) (by omega)), nI_add, nI_clamp (by omega), nI_clamp (by omega), h.1 56 (by decide), nI_1]
      refine ⟨vi_nI (by omega) (by decide), vi_nI (by omega) (by decide), ?_⟩
      exact ih (k + 1) _ (by omega) (h.st (by omega) (img_0 (by omega)) (fun i q => by omega))
  exact l1 48 0 μ rfl ⟨fun _ _ => rfl, fun _ _ => rfl, fun i _ q => absurd q (Nat.not_lt_zero i)⟩
end
section
/-! ===== images: the relation ===== -/
theorem pth_cg {g g' : Nat → Int32} (h : ∀ x, x < 6 → g x = g' x) : ∀ (m x y : Nat), x < 6 → pth g m x y → pth g' m x y
  | 0, x, y, hx, p => by
    show bb (g' x) y = true
    rw [← h x hx]
    exact p
  | m + 1, x, y, hx, p => by
    obtain ⟨z, hz, e, q⟩ := p
    exact ⟨z, hz, by rw [← h x hx]; exact e, pth_cg h m z y hz q⟩
theorem Pm_cg {n : Nat} {f g f' g' : Nat → Int32} (hf : ∀ x, x < 6 → f x = f' x) (hg : ∀ x, x < 6 → g x = g' x) (h : Pm n f g) : Pm n f' g' := by
  obtain ⟨h1, h2, h3, h4, h5⟩ := h
  refine ⟨fun x hx => by rw [← hf x hx]; exact h1 x hx, fun x hx => by rw [← hg x hx]; exact h2 x hx, fun x y hx hy e => h3 x y hx hy (by rw [hg x hx]; exact e), fun x y hx hy => ?_, fun x hx => by rw [← hf x hx]; exact h5 x hx⟩
  rw [← hf x hx, h4 x y hx hy]
  exact ⟨fun ⟨m, p⟩ => ⟨m, pth_cg hg m x y hx p⟩, fun ⟨m, p⟩ => ⟨m, pth_cg (fun z hz => (hg z hz).symm) m x y hx p⟩⟩
theorem vIm_cg {im im' : Nat → Int32} {o : Nat} (h : ∀ i, i < 99 → im (o + i) = im' (o + i)) : vIm im o = vIm im' o := by
  funext r i
  match r with
  | 0 =>
    match i with
    | 0 => exact h 84 (by omega)
    | 1 => exact h 85 (by omega)
    | 2 => exact h 86 (by omega)
    | 3 => exact h 87 (by omega)
    | 4 => exact h 88 (by omega)
    | 5 => exact h 89 (by omega)
    | 6 => exact h 90 (by omega)
    | i + 7 => rfl
  | 1 => exact congrFun (tr_eq fun j hj => h j (by omega)) i
  | 2 => exact congrFun (tr_eq (f := fun i => im (o + 48 + i)) (g := fun i => im' (o + 48 + i)) fun j hj => by
      show im (o + 48 + j) = im' (o + 48 + j)
      rw [Nat.add_assoc]; exact h (48 + j) (by omega)) i
  | 3 => exact congrFun (tr_eq (f := fun i => im (o + 60 + i)) (g := fun i => im' (o + 60 + i)) fun j hj => by
      show im (o + 60 + j) = im' (o + 60 + j)
      rw [Nat.add_assoc]; exact h (60 + j) (by omega)) i
  | 4 => exact congrFun (tr_eq (f := fun i => im (o + 91 + i)) (g := fun i => im' (o + 91 + i)) fun j hj => by
      show im (o + 91 + j) = im' (o + 91 + j)
      rw [Nat.add_assoc]; exact h (91 + j) (by omega)) i
  | 5 => exact congrFun (tr_eq (f := fun i => im (o + 66 + 3 * i)) (g := fun i => im' (o + 66 + 3 * i)) fun j hj => by
      show im (o + 66 + 3 * j) = im' (o + 66 + 3 * j)
      rw [Nat.add_assoc]; exact h (66 + 3 * j) (by omega)) i
  | 6 => exact congrFun (tr_eq (f := fun i => im (o + 66 + (3 * i + 1))) (g := fun i => im' (o + 66 + (3 * i + 1))) fun j hj => by
      show im (o + 66 + (3 * j + 1)) = im' (o + 66 + (3 * j + 1))
      rw [Nat.add_assoc]; exact h (66 + (3 * j + 1)) (by omega)) i
  | 7 => exact congrFun (tr_eq (f := fun i => im (o + 66 + (3 * i + 2))) (g := fun i => im' (o + 66 + (3 * i + 2))) fun j hj => by
      show im (o + 66 + (3 * j + 2)) = im' (o + 66 + (3 * j + 2))
      rw [Nat.add_assoc]; exact h (66 + (3 * j + 2)) (by omega)) i
  | r + 8 => rfl
theorem vIm_img {μ : Mm} : vIm (fun i => img μ i) 0 = vM μ := by
  funext r i
  match r with
  | 0 =>
    match i with
    | 0 => rfl
    | 1 => rfl
    | 2 => rfl
    | 3 => rfl
    | 4 => rfl
    | 5 => rfl
    | 6 => rfl
    | i + 7 => rfl
  | 1 => exact congrFun (tr_eq (f := fun i => img μ (0 + i)) (g := μ 56) fun j hj => by
      show img μ (0 + j) = μ 56 j
      rw [Nat.zero_add]; exact (img_0 hj).symm) i
  | 2 => exact congrFun (tr_eq (f := fun i => img μ (0 + 48 + i)) (g := μ 57) fun j hj => by
      show img μ (0 + 48 + j) = μ 57 j
      rw [Nat.zero_add]; exact (img_1 hj).symm) i
  | 3 => exact congrFun (tr_eq (f := fun i => img μ (0 + 60 + i)) (g := μ 59) fun j hj => by
      show img μ (0 + 60 + j) = μ 59 j
      rw [Nat.zero_add]; exact (img_3 hj).symm) i
  | 4 => exact congrFun (tr_eq (f := fun i => img μ (0 + 91 + i)) (g := μ 60) fun j hj => by
      show img μ (0 + 91 + j) = μ 60 j
      rw [Nat.zero_add]; exact img_5.symm) i
  | 5 => exact congrFun (tr_eq (f := fun i => img μ (0 + 66 + 3 * i)) (g := fun i => μ 61 (3 * i)) fun j hj => by
      show img μ (0 + 66 + 3 * j) = μ 61 (3 * j)
      rw [Nat.zero_add]; exact (img_4 (by omega)).symm) i
  | 6 => exact congrFun (tr_eq (f := fun i => img μ (0 + 66 + (3 * i + 1))) (g := fun i => μ 61 (3 * i + 1)) fun j hj => by
      show img μ (0 + 66 + (3 * j + 1)) = μ 61 (3 * j + 1)
      rw [Nat.zero_add]; exact (img_4 (by omega)).symm) i
  | 7 => exact congrFun (tr_eq (f := fun i => img μ (0 + 66 + (3 * i + 2))) (g := fun i => μ 61 (3 * i + 2)) fun j hj => by
      show img μ (0 + 66 + (3 * j + 2)) = μ 61 (3 * j + 2)
      rw [Nat.zero_add]; exact (img_4 (by omega)).symm) i
  | r + 8 => rfl
theorem vIm_sh {im : Nat → Int32} {o : Nat} : vIm im o = vIm (fun i => im (o + i)) 0 := by
  funext r i
  match r with
  | 0 =>
    match i with
    | 0 => rfl
    | 1 => rfl
    | 2 => rfl
    | 3 => rfl
    | 4 => rfl
    | 5 => rfl
    | 6 => rfl
    | i + 7 => rfl
  | 1 => simp only [vIm, Nat.zero_add]
  | 2 => simp only [vIm, Nat.zero_add, Nat.add_assoc]
  | 3 => simp only [vIm, Nat.zero_add, Nat.add_assoc]
  | 4 => simp only [vIm, Nat.zero_add, Nat.add_assoc]
  | 5 => simp only [vIm, Nat.zero_add, Nat.add_assoc]
  | 6 => simp only [vIm, Nat.zero_add, Nat.add_assoc]
  | 7 => simp only [vIm, Nat.zero_add, Nat.add_assoc]
  | r + 8 => rfl
theorem vIm_new {μ : Mm} {im : Nat → Int32} {o : Nat} (h : ∀ i, i < 99 → im (o + i) = img μ i) : vIm im o = vM μ := by
  rw [vIm_sh, ← vIm_img]
  exact vIm_cg fun i hi => by
    show im (o + (0 + i)) = img μ (0 + i)
    rw [Nat.zero_add]
    exact h i hi
theorem Pi1_cg {t t2 : Int32} {v v' : Vw} {af af' im im' : Nat → Int32} {o : Nat} (hv : v = v') (ha : ∀ x, x < 6 → af x = af' x) (hi : ∀ i, i < 99 → im (o + i) = im' (o + i)) (h : Pi1 t v af im o t2) : Pi1 t v' af' im' o t2 := by
  refine ⟨h.1, h.2.1, fun e => ?_⟩
  obtain ⟨p, q, w⟩ := h.2.2 e
  refine ⟨by rw [← hv, p]; exact vIm_cg hi, hv ▸ q, ?_⟩
  rw [← hv]
  exact Pm_cg ha (fun x hx => by
    show im (o + 54 + x) = im' (o + 54 + x)
    rw [Nat.add_assoc]; exact hi (54 + x) (by omega)) w
/-- an image just taken -/
theorem Pi1_nw {μ μ' : Mm} (r : Rl μ) {v : Vw} {af im : Nat → Int32} {o : Nat} (em : vM μ' = vM μ) (e58 : μ' 58 = μ 58) (hv : v = vM μ) (ha : ∀ x, x < 6 → af x = μ 7 x) (hi : ∀ i, i < 99 → im (o + i) = img μ' i) : Pi1 1 v af im o 1 := by
  refine ⟨rfl, zb1, fun _ => ⟨?_, ?_, ?_⟩⟩
  · rw [hv, ← em]; exact (vIm_new hi).symm
  · rw [hv]; exact r.wf
  · rw [hv]
    exact Pm_cg (fun x hx => (ha x hx).symm) (fun x hx => by
      show μ 58 x = im (o + 54 + x)
      rw [Nat.add_assoc, hi (54 + x) (by omega), ← img_2 hx, e58]) r.2.2.1
end
section
/-! ===== IMAGE ===== -/
theorem im_rel0 {μ μ1 μ2 : Mm} (r : Rl μ) (h1 : ∀ c, ¬ (24 ≤ c ∧ c ≤ 24 + 9) → μ1 c = μ c) (h2 : vS μ1 24 = vS μ 3) (h3 : ∀ i, i < 6 → μ1 (24 + 4) i = μ (3 + 4) i) (hI : Iv (mS μ1 23 1 1) (100 * 0) (fun _ => True) μ2) : Rl (mS μ2 71 0 1) := by
  have kp : ∀ c, c ≠ 70 → c ≠ 71 → c ≠ 23 → ¬ (24 ≤ c ∧ c ≤ 24 + 9) → mS μ2 71 0 1 c = μ c := fun c a1 a2 a3 a4 => by
    rw [mS_c a2, hI.1 c a1, mS_c a3, h1 c a4]
  have e3 : vS (mS μ2 71 0 1) 3 = vS μ 3 := vS_congr fun d hd => kp _ (by omega) (by omega) (by omega) (by omega)
  have eM : vM (mS μ2 71 0 1) = vM μ := vM_congr (fun k _ => by rw [kp 55 (by decide) (by decide) (by decide) (by decide)]) (by rw [kp 55 (by decide) (by decide) (by decide) (by decide)]) (kp 56 (by decide) (by decide) (by decide) (by decide)) (kp 57 (by decide) (by decide) (by decide) (by decide)) (kp 59 (by decide) (by decide) (by decide) (by decide)) (kp 60 (by decide) (by decide) (by decide) (by decide)) (kp 61 (by decide) (by decide) (by decide) (by decide))
  have eN : vM (mS μ1 23 1 1) = vM μ := vM_congr (fun k _ => by rw [mS_c (by decide), h1 55 (by decide)]) (by rw [mS_c (by decide), h1 55 (by decide)]) (by rw [mS_c (by decide), h1 _ (by decide)]) (by rw [mS_c (by decide), h1 _ (by decide)]) (by rw [mS_c (by decide), h1 _ (by decide)]) (by rw [mS_c (by decide), h1 _ (by decide)]) (by rw [mS_c (by decide), h1 _ (by decide)])
  have eV : vS (mS μ2 71 0 1) 24 = vM μ := by
    rw [← r.v, ← h2]
    exact vS_congr fun d hd => by rw [mS_c (by omega), hI.1 _ (by omega), mS_c (by omega)]
  have eW : vS (mS μ2 71 0 1) 35 = vS μ 35 := vS_congr fun d hd => kp _ (by omega) (by omega) (by omega) (by omega)
  have new : Pi1 (mS μ2 71 0 1 23 1) (vS (mS μ2 71 0 1) 24) (mS μ2 71 0 1 (24 + 4)) (mS μ2 71 0 1 70) (100 * 0) (mS μ2 71 0 1 71 0) := by
    rw [mS_eq, mS_c (by decide), hI.1 23 (by decide), mS_eq]
    refine Pi1_nw r (μ' := mS μ1 23 1 1) eN ?_ eV (fun x hx => ?_) (fun i hi => ?_)
    · rw [mS_c (by decide), h1 58 (by decide)]
    · rw [mS_c (by decide), hI.1 _ (by decide), mS_c (by decide)]
      exact h3 x hx
    · rw [mS_c (by decide)]
      exact hI.2.2 i hi trivial
  have old : Pi1 (mS μ2 71 0 1 34 1) (vS (mS μ2 71 0 1) 35) (mS μ2 71 0 1 (35 + 4)) (mS μ2 71 0 1 70) (100 * 1) (mS μ2 71 0 1 71 1) := by
    rw [eW, kp 34 (by decide) (by decide) (by decide) (by decide), kp (35 + 4) (by decide) (by decide) (by decide) (by decide), mS_c (c' := 70) (by decide), mS_k (c := 71) (by decide), hI.1 71 (by decide), mS_c (c' := 71) (by decide), h1 71 (by decide)]
    refine Pi1_cg (im := μ 70) rfl (fun _ _ => rfl) (fun i hi => ?_) r.2.2.2.2
    rw [hI.2.1 (100 * 1 + i) (by omega), mS_c (by decide), h1 70 (by decide)]
  refine ⟨⟨by rw [e3, eM]; exact r.v, by rw [eM]; exact r.wf⟩, ?_, ?_, new, old⟩
  · rw [kp 1 (by decide) (by decide) (by decide) (by decide), kp 2 (by decide) (by decide) (by decide) (by decide), kp 55 (by decide) (by decide) (by decide) (by decide), kp 62 (by decide) (by decide) (by decide) (by decide)]
    exact r.2.1
  · rw [eM, kp 7 (by decide) (by decide) (by decide) (by decide), kp 58 (by decide) (by decide) (by decide) (by decide)]
    exact r.2.2.1
theorem im_rel1 {μ μ1 μ2 : Mm} (r : Rl μ) (h1 : ∀ c, ¬ (35 ≤ c ∧ c ≤ 35 + 9) → μ1 c = μ c) (h2 : vS μ1 35 = vS μ 3) (h3 : ∀ i, i < 6 → μ1 (35 + 4) i = μ (3 + 4) i) (hI : Iv (mS μ1 34 1 1) (100 * 1) (fun _ => True) μ2) : Rl (mS μ2 71 1 1) := by
  have kp : ∀ c, c ≠ 70 → c ≠ 71 → c ≠ 34 → ¬ (35 ≤ c ∧ c ≤ 35 + 9) → mS μ2 71 1 1 c = μ c := fun c a1 a2 a3 a4 => by
    rw [mS_c a2, hI.1 c a1, mS_c a3, h1 c a4]
  have e3 : vS (mS μ2 71 1 1) 3 = vS μ 3 := vS_congr fun d hd => kp _ (by omega) (by omega) (by omega) (by omega)
  have eM : vM (mS μ2 71 1 1) = vM μ := vM_congr (fun k _ => by rw [kp 55 (by decide) (by decide) (by decide) (by decide)]) (by rw [kp 55 (by decide) (by decide) (by decide) (by decide)]) (kp 56 (by decide) (by decide) (by decide) (by decide)) (kp 57 (by decide) (by decide) (by decide) (by decide)) (kp 59 (by decide) (by decide) (by decide) (by decide)) (kp 60 (by decide) (by decide) (by decide) (by decide)) (kp 61 (by decide) (by decide) (by decide) (by decide))
  have eN : vM (mS μ1 34 1 1) = vM μ := vM_congr (fun k _ => by rw [mS_c (by decide), h1 55 (by decide)]) (by rw [mS_c (by decide), h1 55 (by decide)]) (by rw [mS_c (by decide), h1 _ (by decide)]) (by rw [mS_c (by decide), h1 _ (by decide)]) (by rw [mS_c (by decide), h1 _ (by decide)]) (by rw [mS_c (by decide), h1 _ (by decide)]) (by rw [mS_c (by decide), h1 _ (by decide)])
  have eV : vS (mS μ2 71 1 1) 35 = vM μ := by
    rw [← r.v, ← h2]
    exact vS_congr fun d hd => by rw [mS_c (by omega), hI.1 _ (by omega), mS_c (by omega)]
  have eW : vS (mS μ2 71 1 1) 24 = vS μ 24 := vS_congr fun d hd => kp _ (by omega) (by omega) (by omega) (by omega)
  have new : Pi1 (mS μ2 71 1 1 34 1) (vS (mS μ2 71 1 1) 35) (mS μ2 71 1 1 (35 + 4)) (mS μ2 71 1 1 70) (100 * 1) (mS μ2 71 1 1 71 1) := by
    rw [mS_eq, mS_c (by decide), hI.1 34 (by decide), mS_eq]
    refine Pi1_nw r (μ' := mS μ1 34 1 1) eN ?_ eV (fun x hx => ?_) (fun i hi => ?_)
    · rw [mS_c (by decide), h1 58 (by decide)]
    · rw [mS_c (by decide), hI.1 _ (by decide), mS_c (by decide)]
      exact h3 x hx
    · rw [mS_c (by decide)]
      exact hI.2.2 i hi trivial
  have old : Pi1 (mS μ2 71 1 1 23 1) (vS (mS μ2 71 1 1) 24) (mS μ2 71 1 1 (24 + 4)) (mS μ2 71 1 1 70) (100 * 0) (mS μ2 71 1 1 71 0) := by
    rw [eW, kp 23 (by decide) (by decide) (by decide) (by decide), kp (24 + 4) (by decide) (by decide) (by decide) (by decide), mS_c (c' := 70) (by decide), mS_k (c := 71) (by decide), hI.1 71 (by decide), mS_c (c' := 71) (by decide), h1 71 (by decide)]
    refine Pi1_cg (im := μ 70) rfl (fun _ _ => rfl) (fun i hi => ?_) r.2.2.2.1
    rw [hI.2.1 (100 * 0 + i) (by omega), mS_c (by decide), h1 70 (by decide)]
  refine ⟨⟨by rw [e3, eM]; exact r.v, by rw [eM]; exact r.wf⟩, ?_, ?_, old, new⟩
  · rw [kp 1 (by decide) (by decide) (by decide) (by decide), kp 2 (by decide) (by decide) (by decide) (by decide), kp 55 (by decide) (by decide) (by decide) (by decide), kp 62 (by decide) (by decide) (by decide) (by decide)]
    exact r.2.1
  · rw [eM, kp 7 (by decide) (by decide) (by decide) (by decide), kp 58 (by decide) (by decide) (by decide) (by decide)]
    exact r.2.2.1
theorem call_image {μ : Mm} (r : Rl μ) (a : Int32) : s_X9_image [mO 8 0, mI a] μ (fun v1 μ1 => s_X10_image [mO 9 55, mI a] μ1 (fun v2 μ2 => Gd v1 v2 μ2)) := by
  refine g_X9_image (c_within ?_)
  rw [vI_mI, ite_b]
  cases hb : decide (0 ≤ a ∧ a ≤ 1) with
  | false =>
    rw [cond_false]
    refine g_X10_image (d_in ?_)
    rw [vI_mI, ite_b, hb]
    exact ⟨rfl, r⟩
  | true =>
    rw [cond_true]
    obtain ⟨k, hk, rfl⟩ := nI_btw (n := 1) (by decide) (of_decide_eq_true hb).1 (of_decide_eq_true hb).2
    refine g_X9_imageOf ?_
    rcases (show k = 0 ∨ k = 1 by omega) with rfl | rfl
    · rw [if_pos (show nI 0 = 0 from rfl)]
      refine c_copyFrom (a := 24) (b := 3) (by omega) fun μ1 h1 h2 h3 => ⟨zb1, ?_⟩
      show s_X10_image [mO 9 55, mI (nI 0)] (mS μ1 23 1 1) (fun v2 μ2 => Gd (mI 1) v2 μ2)
      refine g_X10_image (d_in ?_)
      rw [vI_mI, ite_b, hb, cond_true, show (100 : Int32) * nI 0 = nI (100 * 0) from nI_mul 100 0]
      exact d_image (by omega) fun μ2 hI => ⟨rfl, im_rel0 r h1 h2 h3 hI⟩
    · rw [if_neg (show ¬ nI 1 = 0 by decide)]
      refine c_copyFrom (a := 35) (b := 3) (by omega) fun μ1 h1 h2 h3 => ⟨zb1, ?_⟩
      show s_X10_image [mO 9 55, mI (nI 1)] (mS μ1 34 1 1) (fun v2 μ2 => Gd (mI 1) v2 μ2)
      refine g_X10_image (d_in ?_)
      rw [vI_mI, ite_b, hb, cond_true, show (100 : Int32) * nI 1 = nI (100 * 1) from nI_mul 100 1]
      exact d_image (by omega) fun μ2 hI => ⟨rfl, im_rel1 r h1 h2 h3 hI⟩
end
section
/-! ===== RESTORE ===== -/
def cl9 (i : Nat) : Nat × Nat := if i < 48 then (56, i) else if i < 54 then (57, i - 48) else if i < 60 then (58, i - 54) else if i < 66 then (59, i - 60) else if i < 84 then (61, i - 66) else if i = 84 then (55, 0) else if i = 85 then (55, 1) else if i = 86 then (55, 2) else if i = 87 then (55, 3) else if i = 88 then (55, 4) else if i = 89 then (55, 5) else if i = 90 then (55, 11) else (60, i - 91)
theorem img_cl {μ : Mm} {i : Nat} : img μ i = μ (cl9 i).1 (cl9 i).2 := by
  unfold img cl9
  by_cases a0 : i < 48
  · simp only [if_pos a0]
  simp only [if_neg a0]
  by_cases a1 : i < 54
  · simp only [if_pos a1]
  simp only [if_neg a1]
  by_cases a2 : i < 60
  · simp only [if_pos a2]
  simp only [if_neg a2]
  by_cases a3 : i < 66
  · simp only [if_pos a3]
  simp only [if_neg a3]
  by_cases a4 : i < 84
  · simp only [if_pos a4]
  simp only [if_neg a4]
  by_cases a5 : i = 84
  · simp only [if_pos a5]
  simp only [if_neg a5]
  by_cases a6 : i = 85
  · simp only [if_pos a6]
  simp only [if_neg a6]
  by_cases a7 : i = 86
  · simp only [if_pos a7]
  simp only [if_neg a7]
  by_cases a8 : i = 87
  · simp only [if_pos a8]
  simp only [if_neg a8]
  by_cases a9 : i = 88
  · simp only [if_pos a9]
  simp only [if_neg a9]
  by_cases a10 : i = 89
  · simp only [if_pos a10]
  simp only [if_neg a10]
  by_cases a11 : i = 90
  · simp only [if_pos a11]
  simp only [if_neg a11]
theorem cl9_inj : ∀ i, i < 99 → ∀ j, j < 99 → cl9 i = cl9 j → i = j := by decide +kernel
theorem cl9_rg : ∀ i, i < 99 → 55 ≤ (cl9 i).1 ∧ (cl9 i).1 ≤ 61 ∧ ((cl9 i).1 = 55 → (cl9 i).2 < 6 ∨ (cl9 i).2 = 11) := by decide +kernel
def Jv (μ : Mm) (o : Nat) (P : Nat → Prop) (μ' : Mm) : Prop := (∀ c, c < 55 ∨ 61 < c → μ' c = μ c) ∧ (∀ k, ¬ (k < 6 ∨ k = 11) → μ' 55 k = μ 55 k) ∧ ∀ i, i < 99 → P i → img μ' i = μ 70 (o + i)
theorem Jv.st {μ μ' : Mm} {o : Nat} {P Q : Nat → Prop} (h : Jv μ o P μ') {i0 c j : Nat} {x : Int32} (hi : i0 < 99) (hc : (c, j) = cl9 i0) (hx : x = μ 70 (o + i0)) (hQ : ∀ i, Q i → i = i0 ∨ P i) : Jv μ o Q (mS μ' c j x) := by
  obtain ⟨b1, b2, b3⟩ := cl9_rg i0 hi
  rw [← hc] at b1 b2 b3
  refine ⟨fun c' hr => ?_, fun k hk => ?_, fun i h9 hq => ?_⟩
  · rw [mS_c (by show c' ≠ c; have : 55 ≤ c := b1; have : c ≤ 61 := b2; omega)]; exact h.1 c' hr
  · rw [mS_ne (fun z => hk (by rw [z.2]; exact b3 z.1.symm))]
    exact h.2.1 k hk
  · by_cases e : i = i0
    · subst e
      rw [img_cl, ← hc]
      show mS μ' c j x c j = _
      rw [mS_eq]
      exact hx
    · have := h.2.2 i h9 ((hQ i hq).resolve_left e)
      rw [img_cl] at this
      rw [img_cl, mS_ne (fun z => e (cl9_inj i h9 i0 hi (by rw [← hc]; exact Prod.ext z.1 z.2)))]
      exact this
theorem cl_0 {i : Nat} (h : i < 48) : (56, i) = cl9 i := by unfold cl9; rw [if_pos h]
theorem cl_1 {i : Nat} (h : i < 6) : (57, i) = cl9 (48 + i) := by
  unfold cl9
  rw [if_neg (by omega), if_pos (by omega), show 48 + i - 48 = i by omega]
theorem cl_2 {i : Nat} (h : i < 6) : (58, i) = cl9 (54 + i) := by
  unfold cl9
  rw [if_neg (by omega), if_neg (by omega), if_pos (by omega), show 54 + i - 54 = i by omega]
theorem cl_3 {i : Nat} (h : i < 6) : (59, i) = cl9 (60 + i) := by
  unfold cl9
  rw [if_neg (by omega), if_neg (by omega), if_neg (by omega), if_pos (by omega), show 60 + i - 60 = i by omega]
theorem cl_4 {i : Nat} (h : i < 18) : (61, i) = cl9 (66 + i) := by
  unfold cl9
  rw [if_neg (by omega), if_neg (by omega), if_neg (by omega), if_neg (by omega), if_pos (by omega), show 66 + i - 66 = i by omega]
theorem cl_5 {i : Nat} : (60, i) = cl9 (91 + i) := by
  unfold cl9
  rw [if_neg (by omega), if_neg (by omega), if_neg (by omega), if_neg (by omega), if_neg (by omega), if_neg (by omega), if_neg (by omega), if_neg (by omega), if_neg (by omega), if_neg (by omega), if_neg (by omega), if_neg (by omega), show 91 + i - 91 = i by omega]
theorem d_restore {μ : Mm} {K : MV → Mm → Prop} {a : Nat} (ha : a < 2) (hK : ∀ μ', Jv μ (100 * a) (fun _ => True) μ' → K (mI 1) μ') : Tot e_X10_restore K 31 [mO 9 55, mI (nI a), mI (nI (100 * a)), mI 0] [] μ := by
  generalize ho : 100 * a = o at hK ⊢
  have ho2 : o ≤ 100 := by omega
  have l4 : ∀ (d k : Nat) (μ' : Mm), k + d = 8 → Jv μ o (fun i => i < 84 ∨ (91 ≤ i ∧ i < 91 + k)) μ' → Tot e_X10_restore K 155 [mO 9 55, mI (nI a), mI (nI o), mI (nI k)] [] μ' := by
    intro d
    induction d with
    | zero =>
      intro k μ' hk h
      have e : k = 8 := by omega
      subst e
      refine g_X10_restore_155 ?_
      rw [if_pos (show (8 : Int32) ≤ nI 8 by decide)]
      have e84 : nI o + 84 = nI (o + 84) := nI_add o 84
      have e85 : nI o + 85 = nI (o + 85) := nI_add o 85
      have e86 : nI o + 86 = nI (o + 86) := nI_add o 86
      have e87 : nI o + 87 = nI (o + 87) := nI_add o 87
      have e88 : nI o + 88 = nI (o + 88) := nI_add o 88
      have e89 : nI o + 89 = nI (o + 89) := nI_add o 89
      have e90 : nI o + 90 = nI (o + 90) := nI_add o 90
      rw [e84, e85, e86, e87, e88, e89, e90]
      refine ⟨vi_nI (by omega) (by decide), vi_nI (by omega) (by decide), vi_nI (by omega) (by decide), vi_nI (by omega) (by decide), vi_nI (by omega) (by decide), vi_nI (by omega) (by decide), vi_nI (by omega) (by decide), ?_⟩
      rw [nI_clamp (by omega), nI_clamp (by omega), nI_clamp (by omega), nI_clamp (by omega), nI_clamp (by omega), nI_clamp (by omega), nI_clamp (by omega)]
      simp (disch := decide) only [mS_c]
      rw [h.1 70 (by decide)]
      refine hK _ (Jv.st (P := fun i => i ≠ 90) (Jv.st (P := fun i => i ≠ 90 ∧ i ≠ 89) (Jv.st (P := fun i => i ≠ 90 ∧ i ≠ 89 ∧ i ≠ 88) (Jv.st (P := fun i => i ≠ 90 ∧ i ≠ 89 ∧ i ≠ 88 ∧ i ≠ 87) (Jv.st (P := fun i => i ≠ 90 ∧ i ≠ 89 ∧ i ≠ 88 ∧ i ≠ 87 ∧ i ≠ 86) (Jv.st (P := fun i => i ≠ 90 ∧ i ≠ 89 ∧ i ≠ 88 ∧ i ≠ 87 ∧ i ≠ 86 ∧ i ≠ 85) (Jv.st (i0 := 84) (P := fun i => i < 84 ∨ (91 ≤ i)) ?_ (by decide) rfl rfl (fun i q => by omega)) (i0 := 85) (by decide) rfl rfl (fun i q => by omega)) (i0 := 86) (by decide) rfl rfl (fun i q => by omega)) (i0 := 87) (by decide) rfl rfl (fun i q => by omega)) (i0 := 88) (by decide) rfl rfl (fun i q => by omega)) (i0 := 89) (by decide) rfl rfl (fun i q => by omega)) (i0 := 90) (by decide) rfl rfl (fun i q => by omega))
      exact ⟨h.1, h.2.1, fun i h9 q => h.2.2 i h9 (by omega)⟩
    | succ d ih =>
      intro k μ' hk h
      refine g_X10_restore_155 ?_
      rw [if_neg (show ¬ (8 : Int32) ≤ nI k from nI_ge (b := 8) (by omega) (by omega))]
      have e1 : (nI o + 91) + nI k = nI (o + (91 + k)) := by
        rw [show (91 : Int32) = nI 91 from rfl, nI_add, nI_add, Nat.add_assoc]
      rw [e1, nI_clamp (by omega), nI_clamp (by omega), h.1 70 (by decide), nI_1]
      refine ⟨vi_nI (by omega) (by decide), vi_nI (by omega) (by decide), ?_⟩
      exact ih (k + 1) _ (by omega) (h.st (by omega) cl_5 rfl (fun i q => by omega))
  have l3 : ∀ (d k : Nat) (μ' : Mm), k + d = 18 → Jv μ o (fun i => i < 66 + k) μ' → Tot e_X10_restore K 124 [mO 9 55, mI (nI a), mI (nI o), mI (nI k)] [] μ' := by
    intro d
    induction d with
    | zero =>
      intro k μ' hk h
      have e : k = 18 := by omega
      subst e
      refine g_X10_restore_124 ?_
      rw [if_pos (show (18 : Int32) ≤ nI 18 by decide)]
      exact l4 8 0 μ' rfl ⟨h.1, h.2.1, fun i h9 q => h.2.2 i h9 (by omega)⟩
    | succ d ih =>
      intro k μ' hk h
      refine g_X10_restore_124 ?_
      rw [if_neg (show ¬ (18 : Int32) ≤ nI k from nI_ge (b := 18) (by omega) (by omega))]
      have e1 : (nI o + 66) + nI k = nI (o + (66 + k)) := by
        rw [show (66 : Int32) = nI 66 from rfl, nI_add, nI_add, Nat.add_assoc]
      rw [e1, nI_clamp (by omega), nI_clamp (by omega), h.1 70 (by decide), nI_1]
      refine ⟨vi_nI (by omega) (by decide), vi_nI (by omega) (by decide), ?_⟩
      exact ih (k + 1) _ (by omega) (h.st (by omega) (cl_4 (by omega)) rfl (fun i q => by omega))
  have l2 : ∀ (d k : Nat) (μ' : Mm), k + d = 6 → Jv μ o (fun i => i < 48 + k ∨ (54 ≤ i ∧ i < 54 + k) ∨ (60 ≤ i ∧ i < 60 + k)) μ' → Tot e_X10_restore K 59 [mO 9 55, mI (nI a), mI (nI o), mI (nI k)] [] μ' := by
    intro d
    induction d with
    | zero =>
      intro k μ' hk h
      have e : k = 6 := by omega
      subst e
      refine g_X10_restore_59 ?_
      rw [if_pos (show (6 : Int32) ≤ nI 6 by decide)]
      exact l3 18 0 μ' rfl ⟨h.1, h.2.1, fun i h9 q => h.2.2 i h9 (by omega)⟩
    | succ d ih =>
      intro k μ' hk h
      refine g_X10_restore_59 ?_
      rw [if_neg (show ¬ (6 : Int32) ≤ nI k from nI_ge (b := 6) (by omega) (by omega))]
      have e1 : (nI o + 48) + nI k = nI (o + (48 + k)) := by
        rw [show (48 : Int32) = nI 48 from rfl, nI_add, nI_add, Nat.add_assoc]
      have e2 : (nI o + 54) + nI k = nI (o + (54 + k)) := by
        rw [show (54 : Int32) = nI 54 from rfl, nI_add, nI_add, Nat.add_assoc]
      have e3 : (nI o + 60) + nI k = nI (o + (60 + k)) := by
        rw [show (60 : Int32) = nI 60 from rfl, nI_add, nI_add, Nat.add_assoc]
      rw [e1, e2, e3, nI_clamp (by omega), nI_clamp (by omega), nI_clamp (by omega), nI_clamp (by omega), nI_1]
      simp (disch := decide) only [mS_c]
      rw [h.1 70 (by decide)]
      refine ⟨vi_nI (by omega) (by decide), vi_nI (by omega) (by decide), vi_nI (by omega) (by decide), vi_nI (by omega) (by decide), vi_nI (by omega) (by decide), vi_nI (by omega) (by decide), ?_⟩
      refine ih (k + 1) _ (by omega) (Jv.st (P := fun i => i < 48 + (k + 1) ∨ (54 ≤ i ∧ i < 54 + (k + 1)) ∨ (60 ≤ i ∧ i < 60 + k)) (Jv.st (P := fun i => i < 48 + (k + 1) ∨ (54 ≤ i ∧ i < 54 + k) ∨ (60 ≤ i ∧ i < 60 + k)) (h.st (by omega) (cl_1 (by omega)) rfl (fun i q => by omega)) (by omega) (cl_2 (by omega)) rfl (fun i q => by omega)) (by omega) (cl_3 (by omega)) rfl (fun i q => by omega))
  have l1 : ∀ (d k : Nat) (μ' : Mm), k + d = 48 → Jv μ o (fun i => i < k) μ' → Tot e_X10_restore K 31 [mO 9 55, mI (nI a), mI (nI o), mI (nI k)] [] μ' := by
    intro d
    induction d with
    | zero =>
      intro k μ' hk h
      have e : k = 48 := by omega
      subst e
      refine g_X10_restore_31 ?_
      rw [if_pos (show (48 : Int32) ≤ nI 48 by decide)]
      exact l2 6 0 μ' rfl ⟨h.1, h.2.1, fun i h9 q => h.2.2 i h9 (by omega)⟩
    | succ d ih =>
      intro k μ' hk h
      refine g_X10_restore_31 ?_
      rw [if_neg (show ¬ (48 : Int32) ≤ nI k from nI_ge (b := 48) (by omega) (by omega)), nI_add, nI_clamp (by omega), nI_clamp (by omega), h.1 70 (by decide), nI_1]
      refine ⟨vi_nI (by omega) (by decide), vi_nI (by omega) (by decide), ?_⟩
      exact ih (k + 1) _ (by omega) (h.st (by omega) (cl_0 (by omega)) rfl (fun i q => by omega))
  exact l1 48 0 μ rfl ⟨fun _ _ => rfl, fun _ _ => rfl, fun i _ q => absurd q (Nat.not_lt_zero i)⟩
theorem re_rel0 {μ μ1 μ2 : Mm} (r : Rl μ) (ht : μ 71 0 = 1) (h1 : ∀ c, ¬ (3 ≤ c ∧ c ≤ 3 + 9) → μ1 c = μ c) (h2 : vS μ1 3 = vS μ 24) (h3 : ∀ i, i < 6 → μ1 (3 + 4) i = μ (24 + 4) i) (hI : Jv μ1 (100 * 0) (fun _ => True) μ2) : Rl μ2 := by
  obtain ⟨p, q, w⟩ := r.2.2.2.1.2.2 ht
  have e3 : vS μ2 3 = vS μ 24 := by
    rw [← h2]
    exact vS_congr fun d hd => hI.1 _ (by omega)
  have eM : vIm (μ 70) (100 * 0) = vM μ2 := vIm_new fun i hi => by
    rw [hI.2.2 i hi trivial, h1 70 (by decide)]
  have eM2 : vS μ 24 = vM μ2 := p.trans eM
  refine ⟨⟨by rw [e3]; exact eM2, by rw [← eM2]; exact q⟩, ?_, ?_, Pir.fr (μ := μ) (fun c a1 a2 a3 => by rw [hI.1 c (by omega), h1 c (by omega)]) r.2.2.2⟩
  · rw [hI.1 1 (by decide), hI.1 2 (by decide), hI.2.1 13 (by decide), hI.1 62 (by decide), h1 1 (by decide), h1 2 (by decide), h1 55 (by decide), h1 62 (by decide)]
    exact r.2.1
  · rw [← eM2]
    refine Pm_cg (fun x hx => ?_) (fun x hx => ?_) w
    · rw [hI.1 7 (by decide)]
      exact (h3 x hx).symm
    · show μ 70 (100 * 0 + 54 + x) = μ2 58 x
      rw [img_2 (μ := μ2) hx, hI.2.2 _ (by omega) trivial, h1 70 (by decide)]
      exact congrArg (μ 70) (by omega)
theorem re_rel1 {μ μ1 μ2 : Mm} (r : Rl μ) (ht : μ 71 1 = 1) (h1 : ∀ c, ¬ (3 ≤ c ∧ c ≤ 3 + 9) → μ1 c = μ c) (h2 : vS μ1 3 = vS μ 35) (h3 : ∀ i, i < 6 → μ1 (3 + 4) i = μ (35 + 4) i) (hI : Jv μ1 (100 * 1) (fun _ => True) μ2) : Rl μ2 := by
  obtain ⟨p, q, w⟩ := r.2.2.2.2.2.2 ht
  have e3 : vS μ2 3 = vS μ 35 := by
    rw [← h2]
    exact vS_congr fun d hd => hI.1 _ (by omega)
  have eM : vIm (μ 70) (100 * 1) = vM μ2 := vIm_new fun i hi => by
    rw [hI.2.2 i hi trivial, h1 70 (by decide)]
  have eM2 : vS μ 35 = vM μ2 := p.trans eM
  refine ⟨⟨by rw [e3]; exact eM2, by rw [← eM2]; exact q⟩, ?_, ?_, Pir.fr (μ := μ) (fun c a1 a2 a3 => by rw [hI.1 c (by omega), h1 c (by omega)]) r.2.2.2⟩
  · rw [hI.1 1 (by decide), hI.1 2 (by decide), hI.2.1 13 (by decide), hI.1 62 (by decide), h1 1 (by decide), h1 2 (by decide), h1 55 (by decide), h1 62 (by decide)]
    exact r.2.1
  · rw [← eM2]
    refine Pm_cg (fun x hx => ?_) (fun x hx => ?_) w
    · rw [hI.1 7 (by decide)]
      exact (h3 x hx).symm
    · show μ 70 (100 * 1 + 54 + x) = μ2 58 x
      rw [img_2 (μ := μ2) hx, hI.2.2 _ (by omega) trivial, h1 70 (by decide)]
      exact congrArg (μ 70) (by omega)
theorem call_restore {μ : Mm} (r : Rl μ) (a : Int32) : s_X9_restore [mO 8 0, mI a] μ (fun v1 μ1 => s_X10_restore [mO 9 55, mI a] μ1 (fun v2 μ2 => Gd v1 v2 μ2)) := by
  refine g_X9_restore (c_within ?_)
  rw [vI_mI, ite_b]
  cases hb : decide (0 ≤ a ∧ a ≤ 1) with
  | false =>
    rw [cond_false]
    refine g_X10_restore (d_in ?_)
    rw [vI_mI, ite_b, hb]
    exact ⟨rfl, r⟩
  | true =>
    rw [cond_true]
    obtain ⟨k, hk, rfl⟩ := nI_btw (n := 1) (by decide) (of_decide_eq_true hb).1 (of_decide_eq_true hb).2
    refine g_X9_imageOf ?_
    rcases (show k = 0 ∨ k = 1 by omega) with rfl | rfl
    · rw [if_pos (show nI 0 = 0 from rfl)]
      show (if μ 23 1 = 0 then s_X10_restore [mO 9 55, mI (nI 0)] μ (fun v2 μ2 => Gd (mI (-3)) v2 μ2) else s_X8_copyFrom [mO 7 3, mO 7 24] μ (fun _ μ1 => s_X10_restore [mO 9 55, mI (nI 0)] μ1 (fun v2 μ2 => Gd (mI 1) v2 μ2)))
      have et : μ 23 1 = μ 71 0 := r.2.2.2.1.1
      have ez : zb (μ 71 0) := r.2.2.2.1.2.1
      split
      · rename_i q
        refine g_X10_restore (d_in ?_)
        rw [vI_mI, ite_b, hb, cond_true, nI_clamp (by decide), ← et, if_pos q]
        exact ⟨vi_nI (by decide) (by decide), rfl, r⟩
      · rename_i q
        refine c_copyFrom (a := 3) (b := 24) (by omega) fun μ1 h1 h2 h3 => ?_
        have ht : μ 71 0 = 1 := ez.resolve_left (by rw [← et]; exact q)
        refine g_X10_restore (d_in ?_)
        rw [vI_mI, ite_b, hb, cond_true, nI_clamp (by decide), h1 71 (by decide), ht, if_neg (by decide), show (100 : Int32) * nI 0 = nI (100 * 0) from nI_mul 100 0]
        exact ⟨vi_nI (by decide) (by decide), d_restore (by omega) fun μ2 hI => ⟨rfl, re_rel0 r ht h1 h2 h3 hI⟩⟩
    · rw [if_neg (show ¬ nI 1 = 0 by decide)]
      show (if μ 34 1 = 0 then s_X10_restore [mO 9 55, mI (nI 1)] μ (fun v2 μ2 => Gd (mI (-3)) v2 μ2) else s_X8_copyFrom [mO 7 3, mO 7 35] μ (fun _ μ1 => s_X10_restore [mO 9 55, mI (nI 1)] μ1 (fun v2 μ2 => Gd (mI 1) v2 μ2)))
      have et : μ 34 1 = μ 71 1 := r.2.2.2.2.1
      have ez : zb (μ 71 1) := r.2.2.2.2.2.1
      split
      · rename_i q
        refine g_X10_restore (d_in ?_)
        rw [vI_mI, ite_b, hb, cond_true, nI_clamp (by decide), ← et, if_pos q]
        exact ⟨vi_nI (by decide) (by decide), rfl, r⟩
      · rename_i q
        refine c_copyFrom (a := 3) (b := 35) (by omega) fun μ1 h1 h2 h3 => ?_
        have ht : μ 71 1 = 1 := ez.resolve_left (by rw [← et]; exact q)
        refine g_X10_restore (d_in ?_)
        rw [vI_mI, ite_b, hb, cond_true, nI_clamp (by decide), h1 71 (by decide), ht, if_neg (by decide), show (100 : Int32) * nI 1 = nI (100 * 1) from nI_mul 100 1]
        exact ⟨vi_nI (by decide) (by decide), d_restore (by omega) fun μ2 hI => ⟨rfl, re_rel1 r ht h1 h2 h3 hI⟩⟩
end
section
/-! ===== worths that fit what was seen ===== -/
theorem vS_wr {μ : Mm} {c i : Nat} {x : Int32} (h : i < 48) : vS (mS μ (c + 2) i x) c = mS (vS μ c) 1 i x := by
  have h0 : mS μ (c + 2) i x c = μ c := mS_c (by omega)
  have h1 : mS μ (c + 2) i x (c + 1) = μ (c + 1) := mS_c (by omega)
  have h3 : mS μ (c + 2) i x (c + 3) = μ (c + 3) := mS_c (by omega)
  have h5 : mS μ (c + 2) i x (c + 5) = μ (c + 5) := mS_c (by omega)
  have h6 : mS μ (c + 2) i x (c + 6) = μ (c + 6) := mS_c (by omega)
  have h7 : mS μ (c + 2) i x (c + 7) = μ (c + 7) := mS_c (by omega)
  have h8 : mS μ (c + 2) i x (c + 8) = μ (c + 8) := mS_c (by omega)
  have h9 : mS μ (c + 2) i x (c + 9) = μ (c + 9) := mS_c (by omega)
  funext r j
  by_cases e : r = 1
  · subst e
    show tr 48 (mS μ (c + 2) i x (c + 2)) j = mS (vS μ c) 1 i x 1 j
    by_cases e2 : j = i
    · subst e2
      rw [tr_at h, mS_eq, mS_eq]
    · rw [mS_k e2]
      show _ = tr 48 (μ (c + 2)) j
      unfold tr
      rw [mS_k e2]
  · rw [mS_c e]
    unfold vS
    simp only [h0, h1, h3, h5, h6, h7, h8, h9]
    match r with
    | 0 => rfl
    | 1 => exact absurd rfl e
    | 2 => rfl
    | 3 => rfl
    | 4 => rfl
    | 5 => rfl
    | 6 => rfl
    | 7 => rfl
    | r + 8 => rfl
theorem vM_wr {μ : Mm} {i : Nat} {x : Int32} (h : i < 48) : vM (mS μ 56 i x) = mS (vM μ) 1 i x := by
  have h0 : mS μ 56 i x 55 = μ 55 := mS_c (by decide)
  have h1 : mS μ 56 i x 57 = μ 57 := mS_c (by decide)
  have h3 : mS μ 56 i x 59 = μ 59 := mS_c (by decide)
  have h5 : mS μ 56 i x 60 = μ 60 := mS_c (by decide)
  have h6 : mS μ 56 i x 61 = μ 61 := mS_c (by decide)
  funext r j
  by_cases e : r = 1
  · subst e
    show tr 48 (mS μ 56 i x 56) j = mS (vM μ) 1 i x 1 j
    by_cases e2 : j = i
    · subst e2
      rw [tr_at h, mS_eq, mS_eq]
    · rw [mS_k e2]
      show _ = tr 48 (μ 56) j
      unfold tr
      rw [mS_k e2]
  · rw [mS_c e]
    unfold vM
    simp only [h0, h1, h3, h5, h6]
    match r with
    | 0 => rfl
    | 1 => exact absurd rfl e
    | 2 => rfl
    | 3 => rfl
    | 4 => rfl
    | 5 => rfl
    | 6 => rfl
    | 7 => rfl
    | r + 8 => rfl
/-- whether the first sights agree with what is told -/
def sn (u : Vw) (g : Nat) : Nat → Bool
  | 0 => true
  | i + 1 => sn u g i && (if u 5 i = nI g then decide (nI (LV (mS u 0 2 (u 7 i)) g) = u 6 i) else true)
theorem sn_mono {u : Vw} {g : Nat} : ∀ (d j : Nat), sn u g j = false → sn u g (j + d) = false
  | 0, _, h => h
  | d + 1, j, h => by
    show (sn u g (j + d) && _) = false
    rw [sn_mono d j h]
    rfl
theorem bs_wb {v : Vw} {x : Int32} (h : Wb v) : Wb (mS v 0 2 x) := h
theorem bs_w9 {v : Vw} {x : Int32} (h : W9 v) : W9 (mS v 0 2 x) := h
theorem bs_bs {v : Vw} {x y : Int32} : mS (mS v 0 2 x) 0 2 y = mS v 0 2 y := mS_mS
theorem bs_rd {v u : Vw} (h : ∀ x, mS v 0 2 x = mS u 0 2 x) {r i : Nat} (e : ¬ (r = 0 ∧ i = 2)) : v r i = u r i := by
  have := congrFun (congrFun (h 0) r) i
  rw [mS_ne e, mS_ne e] at this
  exact this
theorem c_allow {μ : Mm} {K : MV → Mm → Prop} {u : Vw} {g k6 : Nat} (hw : Wb u) (hk6 : k6 ≤ 6) (h6 : u 0 6 = nI k6) (hg : g < 8) (hq : ∀ x, mS (vS μ 13) 0 2 x = mS u 0 2 x)
    (hK : ∀ μ', AgX μ μ' → (∀ x, mS (vS μ' 13) 0 2 x = mS u 0 2 x) → K (mI (bI (sn u g k6))) μ') : s_X7_allow [mO 6 19, mO 7 13, mI (nI g)] μ K := by
  refine g_X7_allow ?_
  have lp : ∀ (d i : Nat) (μ' : Mm), i + d = k6 → sn u g i = true → AgX μ μ' → (∀ x, mS (vS μ' 13) 0 2 x = mS u 0 2 x) → Tot e_X7_allow K 2 [mO 6 19, mO 7 13, mI (nI g), mI (nI i)] [] μ' := by
    intro d
    induction d with
    | zero =>
      intro i μ' hi ht ha hq
      have e : i = k6 := by omega
      subst e
      refine g_X7_allow_2 ?_
      have e0 : μ' 19 0 = nI i := (bs_rd hq (r := 0) (i := 6) (by decide)).trans h6
      rw [e0, if_pos (Int32.le_refl _)]
      have hK := hK μ' ha hq
      rw [ht] at hK
      exact ⟨zb1, hK⟩
    | succ d ih =>
      intro i μ' hi ht ha hq
      refine g_X7_allow_2 ?_
      have e0 : μ' 19 0 = nI k6 := (bs_rd hq (r := 0) (i := 6) (by decide)).trans h6
      have e5 : μ' 20 i = u 5 i := (tr_at (n := 6) (f := μ' 20) (by omega)).symm.trans (bs_rd hq (r := 5) (i := i) (fun z => absurd z.1 (by decide)))
      have e6 : μ' 21 i = u 6 i := (tr_at (n := 6) (f := μ' 21) (by omega)).symm.trans (bs_rd hq (r := 6) (i := i) (fun z => absurd z.1 (by decide)))
      have e7 : μ' 22 i = u 7 i := (tr_at (n := 6) (f := μ' 22) (by omega)).symm.trans (bs_rd hq (r := 7) (i := i) (fun z => absurd z.1 (by decide)))
      rw [e0, if_neg (i_not_le_of_lt (nI_lt (by omega) (by omega)))]
      refine c_at (by omega) (by decide) ?_
      rw [vI_mI, show μ' (19 + 1) i = u 5 i from e5]
      have hs : sn u g (i + 1) = (sn u g i && (if u 5 i = nI g then decide (nI (LV (mS u 0 2 (u 7 i)) g) = u 6 i) else true)) := rfl
      rw [ht, Bool.true_and] at hs
      split
      · rename_i q
        rw [if_pos q] at hs
        refine c_at (by omega) (by decide) ?_
        rw [vI_mI, show μ' (19 + 3) i = u 7 i from e7]
        have ev : vS (mS μ' 13 1 (u 7 i)) 13 = mS u 0 2 (u 7 i) := by rw [vS_base]; exact hq _
        refine c_behind (by rw [ev]; exact bs_wb hw) hg ?_
        rw [ev]
        refine c_at (by omega) (by decide) ?_
        rw [vI_mI, vI_mI, show mS μ' 13 1 (u 7 i) (19 + 2) i = u 6 i from (congrFun (mS_c (by decide)) i).trans e6]
        have ha2 : AgX μ (mS μ' 13 1 (u 7 i)) := ha.st rfl
        have hq2 : ∀ x, mS (vS (mS μ' 13 1 (u 7 i)) 13) 0 2 x = mS u 0 2 x := fun x => by rw [ev, bs_bs]
        split
        · rename_i q2
          rw [decide_eq_true q2] at hs
          rw [nI_1]
          exact ih (i + 1) _ (by omega) hs ha2 hq2
        · rename_i q2
          rw [decide_eq_false q2] at hs
          have hK := hK _ ha2 hq2
          have := sn_mono (k6 - (i + 1)) (i + 1) hs
          rw [show i + 1 + (k6 - (i + 1)) = k6 by omega] at this
          rw [this] at hK
          exact ⟨zb0, hK⟩
      · rename_i q
        rw [if_neg q] at hs
        rw [nI_1]
        exact ih (i + 1) _ (by omega) hs ha hq
  exact lp k6 0 μ (by omega) rfl (AgX.rf μ) hq
/-- but for the reference's scratch and its base -/
def AgB (μ μ' : Mm) : Prop := ∀ c k, sMb c k = false → ¬ (c = 55 ∧ k = 2) → μ' c k = μ c k
theorem d_isSeen {μ : Mm} {K : MV → Mm → Prop} {g k6 : Nat} (hw : Wb (vM μ)) (h9 : W9 (vM μ)) (hk6 : k6 ≤ 6) (h6 : vM μ 0 6 = nI k6) (hg : g < 8)
    (hK : ∀ μ', AgM μ μ' → K (mI (bI (sn (vM μ) g k6))) μ') : s_X10_isSeen [mO 9 55, mI (nI g)] μ K := by
  refine g_X10_isSeen ?_
  generalize hu : vM μ = u at hw h9 h6 hK
  have lp : ∀ (d i : Nat) (μ' : Mm), i + d = k6 → AgB μ μ' → (∀ x, mS (vM μ') 0 2 x = mS u 0 2 x) → Tot e_X10_isSeen K 10 [mO 9 55, mI (nI g), mI (μ 55 2), mI (bI (sn u g i)), mI (nI i)] [] μ' := by
    intro d
    induction d with
    | zero =>
      intro i μ' hi ha hq
      have e : i = k6 := by omega
      subst e
      refine g_X10_isSeen_10 ?_
      have e0 : μ' 55 11 = nI i := (bs_rd hq (r := 0) (i := 6) (by decide)).trans h6
      rw [e0, if_pos (Int32.le_refl _)]
      refine ⟨zb_bI, hK _ (fun c k e => ?_)⟩
      by_cases e2 : c = 55 ∧ k = 2
      · rw [e2.1, e2.2, mS_eq]
      · rw [mS_ne e2]
        exact ha c k e e2
    | succ d ih =>
      intro i μ' hi ha hq
      refine g_X10_isSeen_10 ?_
      have e0 : μ' 55 11 = nI k6 := (bs_rd hq (r := 0) (i := 6) (by decide)).trans h6
      have e5 : μ' 61 (3 * i) = u 5 i := (tr_at (n := 6) (f := fun i => μ' 61 (3 * i)) (by omega)).symm.trans (bs_rd hq (r := 5) (i := i) (fun z => absurd z.1 (by decide)))
      have e6 : μ' 61 (3 * i + 1) = u 6 i := (tr_at (n := 6) (f := fun i => μ' 61 (3 * i + 1)) (by omega)).symm.trans (bs_rd hq (r := 6) (i := i) (fun z => absurd z.1 (by decide)))
      have e7 : μ' 61 (3 * i + 2) = u 7 i := (tr_at (n := 6) (f := fun i => μ' 61 (3 * i + 2)) (by omega)).symm.trans (bs_rd hq (r := 7) (i := i) (fun z => absurd z.1 (by decide)))
      have x3 : (3 : Int32) * nI i = nI (3 * i) := nI_mul 3 i
      have x4 : nI (3 * i) + 2 = nI (3 * i + 2) := nI_add (3 * i) 2
      rw [e0, if_neg (i_not_le_of_lt (nI_lt (by omega) (by omega))), x3, x4, nI_1, nI_1, nI_clamp (by omega), nI_clamp (by omega), nI_clamp (by omega), e5, e7]
      refine ⟨vi_nI (by omega) (by decide), ?_⟩
      have hs : sn u g (i + 1) = (sn u g i && (if u 5 i = nI g then decide (nI (LV (mS u 0 2 (u 7 i)) g) = u 6 i) else true)) := rfl
      have ev : vM (mS μ' 55 2 (u 7 i)) = mS u 0 2 (u 7 i) := by rw [vM_base]; exact hq _
      have ha2 : AgB μ (mS μ' 55 2 (u 7 i)) := fun c k e hne => by rw [mS_ne hne]; exact ha c k e hne
      have hq2 : ∀ x, mS (vM (mS μ' 55 2 (u 7 i))) 0 2 x = mS u 0 2 x := fun x => by rw [ev, bs_bs]
      split
      · rename_i q
        rw [if_pos q] at hs
        refine ⟨vi_nI (by omega) (by decide), ?_⟩
        rw [ite_b]
        cases ht : sn u g i with
        | false =>
          rw [ht, Bool.false_and] at hs
          rw [cond_false]
          have := ih (i + 1) _ (by omega) ha2 hq2
          rw [hs] at this
          exact this
        | true =>
          rw [ht, Bool.true_and] at hs
          rw [cond_true]
          refine d_leavesAt (by rw [ev]; exact bs_wb hw) (by rw [ev]; exact bs_w9 h9) hg fun μ1 ha1 _ => ?_
          rw [ev, vI_mI]
          refine ⟨vi_nI (by omega) (by decide), ?_⟩
          have e61 : μ1 61 (3 * i + 1) = u 6 i := by rw [ha1 61 _ rfl, mS_c (by decide)]; exact e6
          have ha3 : AgB μ μ1 := fun c k e hne => by rw [ha1 c k e]; exact ha2 c k e hne
          have hq3 : ∀ x, mS (vM μ1) 0 2 x = mS u 0 2 x := fun x => by rw [ha1.vM]; exact hq2 x
          rw [e61]
          have := ih (i + 1) _ (by omega) ha3 hq3
          split
          · rename_i q2
            rw [hs, decide_eq_true q2] at this
            exact this
          · rename_i q2
            rw [hs, decide_eq_false q2] at this
            exact this
      · rename_i q
        rw [if_neg q, Bool.and_true] at hs
        have := ih (i + 1) _ (by omega) ha hq
        rw [hs] at this
        exact this
  exact lp k6 0 μ (by omega) (fun _ _ _ _ => rfl) (fun x => by rw [hu])
end
