section
/-- a private method of a class that the tables say can be made, by its rows of tables_1 -/
def lw_okq (q : MethodName × Nat) : Prop := (q.1.cls ≠ "java/lang/invoke/MethodHandle" ∧ q.1.cls ≠ "java/lang/invoke/VarHandle") ∧ Cond.instantiable q.1.cls q.2 ∈ tables_1 ∧ Cond.privateMethod q.1 ∈ tables_1 ∧ Cond.instanceMethod q.1 ∈ tables_1
theorem lw_p0 : lw_okq (⟨"ActsPaid", "tried", "()LActsPaid$Stage;"⟩, 9) := ⟨⟨by decide +kernel, by decide +kernel⟩, List.mem_of_getElem? (i := 15) (by decide +kernel), List.mem_of_getElem? (i := 392) (by decide +kernel), List.mem_of_getElem? (i := 393) (by decide +kernel)⟩
theorem lw_p1 : lw_okq (⟨"ActsPaid", "imageOf", "(I)LActsPaid$Image;"⟩, 9) := ⟨⟨by decide +kernel, by decide +kernel⟩, List.mem_of_getElem? (i := 15) (by decide +kernel), List.mem_of_getElem? (i := 623) (by decide +kernel), List.mem_of_getElem? (i := 624) (by decide +kernel)⟩
theorem lw_p2 : lw_okq (⟨"ActsPaidModel", "plain", "()V"⟩, 27) := ⟨⟨by decide +kernel, by decide +kernel⟩, List.mem_of_getElem? (i := 635) (by decide +kernel), List.mem_of_getElem? (i := 641) (by decide +kernel), List.mem_of_getElem? (i := 642) (by decide +kernel)⟩
theorem lw_p3 : lw_okq (⟨"ActsPaidModel", "guestFault", "()I"⟩, 27) := ⟨⟨by decide +kernel, by decide +kernel⟩, List.mem_of_getElem? (i := 635) (by decide +kernel), List.mem_of_getElem? (i := 751) (by decide +kernel), List.mem_of_getElem? (i := 752) (by decide +kernel)⟩
theorem lw_p4 : lw_okq (⟨"ActsPaidModel", "orderFault", "()I"⟩, 27) := ⟨⟨by decide +kernel, by decide +kernel⟩, List.mem_of_getElem? (i := 635) (by decide +kernel), List.mem_of_getElem? (i := 755) (by decide +kernel), List.mem_of_getElem? (i := 756) (by decide +kernel)⟩
theorem lw_p5 : lw_okq (⟨"ActsPaidModel", "isAct", "(I)Z"⟩, 27) := ⟨⟨by decide +kernel, by decide +kernel⟩, List.mem_of_getElem? (i := 635) (by decide +kernel), List.mem_of_getElem? (i := 759) (by decide +kernel), List.mem_of_getElem? (i := 760) (by decide +kernel)⟩
theorem lw_p6 : lw_okq (⟨"ActsPaidModel", "comes", "(I)Z"⟩, 27) := ⟨⟨by decide +kernel, by decide +kernel⟩, List.mem_of_getElem? (i := 635) (by decide +kernel), List.mem_of_getElem? (i := 777) (by decide +kernel), List.mem_of_getElem? (i := 778) (by decide +kernel)⟩
theorem lw_p7 : lw_okq (⟨"ActsPaidModel", "leavesAt", "(I)I"⟩, 27) := ⟨⟨by decide +kernel, by decide +kernel⟩, List.mem_of_getElem? (i := 635) (by decide +kernel), List.mem_of_getElem? (i := 793) (by decide +kernel), List.mem_of_getElem? (i := 794) (by decide +kernel)⟩
theorem lw_p8 : lw_okq (⟨"ActsPaidModel", "faresOf", "(II)I"⟩, 27) := ⟨⟨by decide +kernel, by decide +kernel⟩, List.mem_of_getElem? (i := 635) (by decide +kernel), List.mem_of_getElem? (i := 797) (by decide +kernel), List.mem_of_getElem? (i := 798) (by decide +kernel)⟩
theorem lw_p9 : lw_okq (⟨"ActsPaidModel", "allTakings", "()I"⟩, 27) := ⟨⟨by decide +kernel, by decide +kernel⟩, List.mem_of_getElem? (i := 635) (by decide +kernel), List.mem_of_getElem? (i := 805) (by decide +kernel), List.mem_of_getElem? (i := 806) (by decide +kernel)⟩
theorem lw_p10 : lw_okq (⟨"ActsPaidModel", "paysOf", "(I)I"⟩, 27) := ⟨⟨by decide +kernel, by decide +kernel⟩, List.mem_of_getElem? (i := 635) (by decide +kernel), List.mem_of_getElem? (i := 809) (by decide +kernel), List.mem_of_getElem? (i := 810) (by decide +kernel)⟩
theorem lw_p11 : lw_okq (⟨"ActsPaidModel", "isAhead", "(II)Z"⟩, 27) := ⟨⟨by decide +kernel, by decide +kernel⟩, List.mem_of_getElem? (i := 635) (by decide +kernel), List.mem_of_getElem? (i := 825) (by decide +kernel), List.mem_of_getElem? (i := 826) (by decide +kernel)⟩
theorem lw_p12 : lw_okq (⟨"ActsPaidModel", "firstRow", "(I)V"⟩, 27) := ⟨⟨by decide +kernel, by decide +kernel⟩, List.mem_of_getElem? (i := 635) (by decide +kernel), List.mem_of_getElem? (i := 833) (by decide +kernel), List.mem_of_getElem? (i := 834) (by decide +kernel)⟩
theorem lw_p13 : lw_okq (⟨"ActsPaidModel", "keepsMust", "()Z"⟩, 27) := ⟨⟨by decide +kernel, by decide +kernel⟩, List.mem_of_getElem? (i := 635) (by decide +kernel), List.mem_of_getElem? (i := 837) (by decide +kernel), List.mem_of_getElem? (i := 838) (by decide +kernel)⟩
theorem lw_p14 : lw_okq (⟨"ActsPaidModel", "nextRow", "(I)Z"⟩, 27) := ⟨⟨by decide +kernel, by decide +kernel⟩, List.mem_of_getElem? (i := 635) (by decide +kernel), List.mem_of_getElem? (i := 841) (by decide +kernel), List.mem_of_getElem? (i := 842) (by decide +kernel)⟩
theorem lw_p15 : lw_okq (⟨"ActsPaidModel", "change", "(II)V"⟩, 27) := ⟨⟨by decide +kernel, by decide +kernel⟩, List.mem_of_getElem? (i := 635) (by decide +kernel), List.mem_of_getElem? (i := 845) (by decide +kernel), List.mem_of_getElem? (i := 846) (by decide +kernel)⟩
def lw_privs_1 : List (MethodName × Nat) := [(⟨"ActsPaid", "tried", "()LActsPaid$Stage;"⟩, 9), (⟨"ActsPaid", "imageOf", "(I)LActsPaid$Image;"⟩, 9), (⟨"ActsPaidModel", "plain", "()V"⟩, 27), (⟨"ActsPaidModel", "guestFault", "()I"⟩, 27), (⟨"ActsPaidModel", "orderFault", "()I"⟩, 27), (⟨"ActsPaidModel", "isAct", "(I)Z"⟩, 27), (⟨"ActsPaidModel", "comes", "(I)Z"⟩, 27), (⟨"ActsPaidModel", "leavesAt", "(I)I"⟩, 27), (⟨"ActsPaidModel", "faresOf", "(II)I"⟩, 27), (⟨"ActsPaidModel", "allTakings", "()I"⟩, 27), (⟨"ActsPaidModel", "paysOf", "(I)I"⟩, 27), (⟨"ActsPaidModel", "isAhead", "(II)Z"⟩, 27), (⟨"ActsPaidModel", "firstRow", "(I)V"⟩, 27), (⟨"ActsPaidModel", "keepsMust", "()Z"⟩, 27), (⟨"ActsPaidModel", "nextRow", "(I)Z"⟩, 27), (⟨"ActsPaidModel", "change", "(II)V"⟩, 27)]
theorem lw_r1 : ∀ q ∈ lw_privs_1, lw_okq q := List.forall_mem_cons.mpr ⟨lw_p0, List.forall_mem_cons.mpr ⟨lw_p1, List.forall_mem_cons.mpr ⟨lw_p2, List.forall_mem_cons.mpr ⟨lw_p3, List.forall_mem_cons.mpr ⟨lw_p4, List.forall_mem_cons.mpr ⟨lw_p5, List.forall_mem_cons.mpr ⟨lw_p6, List.forall_mem_cons.mpr ⟨lw_p7, List.forall_mem_cons.mpr ⟨lw_p8, List.forall_mem_cons.mpr ⟨lw_p9, List.forall_mem_cons.mpr ⟨lw_p10, List.forall_mem_cons.mpr ⟨lw_p11, List.forall_mem_cons.mpr ⟨lw_p12, List.forall_mem_cons.mpr ⟨lw_p13, List.forall_mem_cons.mpr ⟨lw_p14, List.forall_mem_cons.mpr ⟨lw_p15, fun _ h => absurd h List.not_mem_nil⟩⟩⟩⟩⟩⟩⟩⟩⟩⟩⟩⟩⟩⟩⟩⟩
theorem lw_p16 : lw_okq (⟨"ActsPaidModel", "raise", "(II)V"⟩, 27) := ⟨⟨by decide +kernel, by decide +kernel⟩, List.mem_of_getElem? (i := 635) (by decide +kernel), List.mem_of_getElem? (i := 853) (by decide +kernel), List.mem_of_getElem? (i := 854) (by decide +kernel)⟩
theorem lw_p17 : lw_okq (⟨"ActsPaidModel", "risen", "(I)I"⟩, 27) := ⟨⟨by decide +kernel, by decide +kernel⟩, List.mem_of_getElem? (i := 635) (by decide +kernel), List.mem_of_getElem? (i := 865) (by decide +kernel), List.mem_of_getElem? (i := 866) (by decide +kernel)⟩
theorem lw_p18 : lw_okq (⟨"ActsPaidModel", "keepsFriends", "(I)Z"⟩, 27) := ⟨⟨by decide +kernel, by decide +kernel⟩, List.mem_of_getElem? (i := 635) (by decide +kernel), List.mem_of_getElem? (i := 869) (by decide +kernel), List.mem_of_getElem? (i := 870) (by decide +kernel)⟩
theorem lw_p19 : lw_okq (⟨"ActsPaidModel", "goOver", "(I)V"⟩, 27) := ⟨⟨by decide +kernel, by decide +kernel⟩, List.mem_of_getElem? (i := 635) (by decide +kernel), List.mem_of_getElem? (i := 881) (by decide +kernel), List.mem_of_getElem? (i := 882) (by decide +kernel)⟩
theorem lw_p20 : lw_okq (⟨"ActsPaidModel", "takenBy", "(I)I"⟩, 27) := ⟨⟨by decide +kernel, by decide +kernel⟩, List.mem_of_getElem? (i := 635) (by decide +kernel), List.mem_of_getElem? (i := 890) (by decide +kernel), List.mem_of_getElem? (i := 891) (by decide +kernel)⟩
theorem lw_p21 : lw_okq (⟨"ActsPaidModel", "isSeen", "(I)Z"⟩, 27) := ⟨⟨by decide +kernel, by decide +kernel⟩, List.mem_of_getElem? (i := 635) (by decide +kernel), List.mem_of_getElem? (i := 910) (by decide +kernel), List.mem_of_getElem? (i := 911) (by decide +kernel)⟩
theorem lw_p22 : lw_okq (⟨"ActsPaidModel", "layPays", "()V"⟩, 27) := ⟨⟨by decide +kernel, by decide +kernel⟩, List.mem_of_getElem? (i := 635) (by decide +kernel), List.mem_of_getElem? (i := 919) (by decide +kernel), List.mem_of_getElem? (i := 920) (by decide +kernel)⟩
theorem lw_p23 : lw_okq (⟨"ActsPaidModel", "takenOf", "(I)I"⟩, 27) := ⟨⟨by decide +kernel, by decide +kernel⟩, List.mem_of_getElem? (i := 635) (by decide +kernel), List.mem_of_getElem? (i := 923) (by decide +kernel), List.mem_of_getElem? (i := 924) (by decide +kernel)⟩
def lw_privs_2 : List (MethodName × Nat) := [(⟨"ActsPaidModel", "raise", "(II)V"⟩, 27), (⟨"ActsPaidModel", "risen", "(I)I"⟩, 27), (⟨"ActsPaidModel", "keepsFriends", "(I)Z"⟩, 27), (⟨"ActsPaidModel", "goOver", "(I)V"⟩, 27), (⟨"ActsPaidModel", "takenBy", "(I)I"⟩, 27), (⟨"ActsPaidModel", "isSeen", "(I)Z"⟩, 27), (⟨"ActsPaidModel", "layPays", "()V"⟩, 27), (⟨"ActsPaidModel", "takenOf", "(I)I"⟩, 27)]
theorem lw_r2 : ∀ q ∈ lw_privs_2, lw_okq q := List.forall_mem_cons.mpr ⟨lw_p16, List.forall_mem_cons.mpr ⟨lw_p17, List.forall_mem_cons.mpr ⟨lw_p18, List.forall_mem_cons.mpr ⟨lw_p19, List.forall_mem_cons.mpr ⟨lw_p20, List.forall_mem_cons.mpr ⟨lw_p21, List.forall_mem_cons.mpr ⟨lw_p22, List.forall_mem_cons.mpr ⟨lw_p23, fun _ h => absurd h List.not_mem_nil⟩⟩⟩⟩⟩⟩⟩⟩
def lw_privs : List (MethodName × Nat) := lw_privs_1 ++ (lw_privs_2)
def lw_tbl : List Cond := k2_sels lw_privs ++ tables_1
theorem lw_privs_ok : ∀ q ∈ lw_privs, lw_okq q := by
  show ∀ q ∈ lw_privs_1 ++ (lw_privs_2), lw_okq q
  exact List.forall_mem_append.mpr ⟨lw_r1, lw_r2⟩

def RX0 : String := "ActsPaid$Chances"
def TX0 : u_T := fun k => match k with
  | _ => ("ActsPaid$Chances", "payments", "[I", true)
def tyX0 : Nat → FieldType := fun k => match k with
  | _ => .array .int
abbrev wsX00 : List Cond := u_ws RX0 TX0 1
theorem nmX0 : ∀ a, a < 1 → ∀ b, b < 1 → a ≠ b → (TX0 a).2.1 ≠ (TX0 b).2.1 := by decide +kernel
theorem tyX0_ok : ∀ k, k < 1 → parseFieldDescriptor (TX0 k).2.2.1 = some (tyX0 k) := by decide +kernel
def RX1 : String := "ActsPaid$Houses"
def TX1 : u_T := fun k => match k with
  | 0 => ("ActsPaid$Houses", "goesOver", "I", false)
  | 1 => ("ActsPaid$Houses", "goesHome", "I", false)
  | 2 => ("ActsPaid$Houses", "takenHere", "I", false)
  | 3 => ("ActsPaid$Houses", "takenThere", "I", false)
  | 4 => ("ActsPaid$Houses", "here", "[I", true)
  | _ => ("ActsPaid$Houses", "there", "[I", true)
def tyX1 : Nat → FieldType := fun k => match k with
  | 0 => .int
  | 1 => .int
  | 2 => .int
  | 3 => .int
  | 4 => .array .int
  | _ => .array .int
abbrev wsX10 : List Cond := u_ws RX1 TX1 6
theorem nmX1 : ∀ a, a < 6 → ∀ b, b < 6 → a ≠ b → (TX1 a).2.1 ≠ (TX1 b).2.1 := by decide +kernel
theorem tyX1_ok : ∀ k, k < 6 → parseFieldDescriptor (TX1 k).2.2.1 = some (tyX1 k) := by decide +kernel
def RX2 : String := "ActsPaid$Image"
def TX2 : u_T := fun k => match k with
  | 0 => ("ActsPaid$Image", "kept", "LActsPaid$Stage;", true)
  | _ => ("ActsPaid$Image", "taken", "Z", false)
def tyX2 : Nat → FieldType := fun k => match k with
  | 0 => .object "ActsPaid$Stage"
  | _ => .boolean
abbrev wsX20 : List Cond := u_ws RX2 TX2 2
theorem nmX2 : ∀ a, a < 2 → ∀ b, b < 2 → a ≠ b → (TX2 a).2.1 ≠ (TX2 b).2.1 := by decide +kernel
theorem tyX2_ok : ∀ k, k < 2 → parseFieldDescriptor (TX2 k).2.2.1 = some (tyX2 k) := by decide +kernel
def RX3 : String := "ActsPaid$Pad"
def TX3 : u_T := fun k => match k with
  | 0 => ("ActsPaid$Pad", "signs", "[I", true)
  | _ => ("ActsPaid$Pad", "count", "I", false)
def tyX3 : Nat → FieldType := fun k => match k with
  | 0 => .array .int
  | _ => .int
abbrev wsX30 : List Cond := u_ws RX3 TX3 2
theorem nmX3 : ∀ a, a < 2 → ∀ b, b < 2 → a ≠ b → (TX3 a).2.1 ≠ (TX3 b).2.1 := by decide +kernel
theorem tyX3_ok : ∀ k, k < 2 → parseFieldDescriptor (TX3 k).2.2.1 = some (tyX3 k) := by decide +kernel
def RX4 : String := "ActsPaid$Programme"
def TX4 : u_T := fun k => match k with
  | _ => ("ActsPaid$Programme", "best", "[I", true)
def tyX4 : Nat → FieldType := fun k => match k with
  | _ => .array .int
abbrev wsX40 : List Cond := u_ws RX4 TX4 1
theorem nmX4 : ∀ a, a < 1 → ∀ b, b < 1 → a ≠ b → (TX4 a).2.1 ≠ (TX4 b).2.1 := by decide +kernel
theorem tyX4_ok : ∀ k, k < 1 → parseFieldDescriptor (TX4 k).2.2.1 = some (tyX4 k) := by decide +kernel
def RX5 : String := "ActsPaid$Rows"
def TX5 : u_T := fun k => match k with
  | _ => ("", "", "", false)
def tyX5 : Nat → FieldType := fun k => match k with
  | _ => .int
abbrev wsX50 : List Cond := u_ws RX5 TX5 0
theorem nmX5 : ∀ a, a < 0 → ∀ b, b < 0 → a ≠ b → (TX5 a).2.1 ≠ (TX5 b).2.1 := by decide +kernel
theorem tyX5_ok : ∀ k, k < 0 → parseFieldDescriptor (TX5 k).2.2.1 = some (tyX5 k) := by decide +kernel
def RX6 : String := "ActsPaid$Seats"
def TX6 : u_T := fun k => match k with
  | 0 => ("ActsPaid$Seats", "fewest", "[I", true)
  | _ => ("ActsPaid$Seats", "later", "[I", true)
def tyX6 : Nat → FieldType := fun k => match k with
  | 0 => .array .int
  | _ => .array .int
abbrev wsX60 : List Cond := u_ws RX6 TX6 2
theorem nmX6 : ∀ a, a < 2 → ∀ b, b < 2 → a ≠ b → (TX6 a).2.1 ≠ (TX6 b).2.1 := by decide +kernel
theorem tyX6_ok : ∀ k, k < 2 → parseFieldDescriptor (TX6 k).2.2.1 = some (tyX6 k) := by decide +kernel
def RX7 : String := "ActsPaid$Sights"
def TX7 : u_T := fun k => match k with
  | 0 => ("ActsPaid$Sights", "count", "I", false)
  | 1 => ("ActsPaid$Sights", "guests", "[I", true)
  | 2 => ("ActsPaid$Sights", "behinds", "[I", true)
  | _ => ("ActsPaid$Sights", "bases", "[I", true)
def tyX7 : Nat → FieldType := fun k => match k with
  | 0 => .int
  | 1 => .array .int
  | 2 => .array .int
  | _ => .array .int
abbrev wsX70 : List Cond := u_ws RX7 TX7 4
theorem nmX7 : ∀ a, a < 4 → ∀ b, b < 4 → a ≠ b → (TX7 a).2.1 ≠ (TX7 b).2.1 := by decide +kernel
theorem tyX7_ok : ∀ k, k < 4 → parseFieldDescriptor (TX7 k).2.2.1 = some (tyX7 k) := by decide +kernel
def RX8 : String := "ActsPaid$Stage"
def TX8 : u_T := fun k => match k with
  | 0 => ("ActsPaid$Stage", "acts", "I", false)
  | 1 => ("ActsPaid$Stage", "base", "I", false)
  | 2 => ("ActsPaid$Stage", "step", "I", false)
  | 3 => ("ActsPaid$Stage", "law", "I", false)
  | 4 => ("ActsPaid$Stage", "baseThere", "I", false)
  | 5 => ("ActsPaid$Stage", "present", "I", false)
  | 6 => ("ActsPaid$Stage", "order", "[I", true)
  | 7 => ("ActsPaid$Stage", "worths", "[I", true)
  | 8 => ("ActsPaid$Stage", "worthsThere", "[I", true)
  | 9 => ("ActsPaid$Stage", "after", "[I", true)
  | 10 => ("ActsPaid$Stage", "friendsOf", "[I", true)
  | _ => ("ActsPaid$Stage", "sights", "LActsPaid$Sights;", true)
def tyX8 : Nat → FieldType := fun k => match k with
  | 0 => .int
  | 1 => .int
  | 2 => .int
  | 3 => .int
  | 4 => .int
  | 5 => .int
  | 6 => .array .int
  | 7 => .array .int
  | 8 => .array .int
  | 9 => .array .int
  | 10 => .array .int
  | _ => .object "ActsPaid$Sights"
abbrev wsX80 : List Cond := u_ws RX8 TX8 12
theorem nmX8 : ∀ a, a < 12 → ∀ b, b < 12 → a ≠ b → (TX8 a).2.1 ≠ (TX8 b).2.1 := by decide +kernel
theorem tyX8_ok : ∀ k, k < 12 → parseFieldDescriptor (TX8 k).2.2.1 = some (tyX8 k) := by decide +kernel
def RX9 : String := "ActsPaid"
def TX9 : u_T := fun k => match k with
  | 0 => ("ActsPaid", "pad", "LActsPaid$Pad;", true)
  | 1 => ("ActsPaid", "stage", "LActsPaid$Stage;", true)
  | 2 => ("ActsPaid", "trial", "LActsPaid$Stage;", true)
  | 3 => ("ActsPaid", "firstImage", "LActsPaid$Image;", true)
  | 4 => ("ActsPaid", "secondImage", "LActsPaid$Image;", true)
  | 5 => ("ActsPaid", "programme", "LActsPaid$Programme;", true)
  | 6 => ("ActsPaid", "seats", "LActsPaid$Seats;", true)
  | 7 => ("ActsPaid", "houses", "LActsPaid$Houses;", true)
  | _ => ("ActsPaid", "chances", "LActsPaid$Chances;", true)
def tyX9 : Nat → FieldType := fun k => match k with
  | 0 => .object "ActsPaid$Pad"
  | 1 => .object "ActsPaid$Stage"
  | 2 => .object "ActsPaid$Stage"
  | 3 => .object "ActsPaid$Image"
  | 4 => .object "ActsPaid$Image"
  | 5 => .object "ActsPaid$Programme"
  | 6 => .object "ActsPaid$Seats"
  | 7 => .object "ActsPaid$Houses"
  | _ => .object "ActsPaid$Chances"
abbrev wsX90 : List Cond := u_ws RX9 TX9 9
theorem nmX9 : ∀ a, a < 9 → ∀ b, b < 9 → a ≠ b → (TX9 a).2.1 ≠ (TX9 b).2.1 := by decide +kernel
theorem tyX9_ok : ∀ k, k < 9 → parseFieldDescriptor (TX9 k).2.2.1 = some (tyX9 k) := by decide +kernel
def RX10 : String := "ActsPaidModel"
def TX10 : u_T := fun k => match k with
  | 0 => ("ActsPaidModel", "acts", "I", false)
  | 1 => ("ActsPaidModel", "come", "I", false)
  | 2 => ("ActsPaidModel", "base", "I", false)
  | 3 => ("ActsPaidModel", "step", "I", false)
  | 4 => ("ActsPaidModel", "law", "I", false)
  | 5 => ("ActsPaidModel", "there", "I", false)
  | 6 => ("ActsPaidModel", "worth", "[I", true)
  | 7 => ("ActsPaidModel", "order", "[I", true)
  | 8 => ("ActsPaidModel", "behind", "[I", true)
  | 9 => ("ActsPaidModel", "others", "[I", true)
  | 10 => ("ActsPaidModel", "beside", "[I", true)
  | 11 => ("ActsPaidModel", "sights", "I", false)
  | 12 => ("ActsPaidModel", "sight", "[I", true)
  | 13 => ("ActsPaidModel", "signs", "I", false)
  | 14 => ("ActsPaidModel", "pad", "[I", true)
  | 15 => ("ActsPaidModel", "own", "I", false)
  | 16 => ("ActsPaidModel", "row", "[I", true)
  | 17 => ("ActsPaidModel", "kept", "[I", true)
  | 18 => ("ActsPaidModel", "best", "[I", true)
  | 19 => ("ActsPaidModel", "who", "[I", true)
  | 20 => ("ActsPaidModel", "end", "[I", true)
  | 21 => ("ActsPaidModel", "goesAt", "I", false)
  | 22 => ("ActsPaidModel", "endsAt", "I", false)
  | 23 => ("ActsPaidModel", "taken", "[I", true)
  | 24 => ("ActsPaidModel", "pays", "[I", true)
  | 25 => ("ActsPaidModel", "image", "[I", true)
  | _ => ("ActsPaidModel", "isKept", "[Z", true)
def tyX10 : Nat → FieldType := fun k => match k with
  | 0 => .int
  | 1 => .int
  | 2 => .int
  | 3 => .int
  | 4 => .int
  | 5 => .int
  | 6 => .array .int
  | 7 => .array .int
  | 8 => .array .int
  | 9 => .array .int
  | 10 => .array .int
  | 11 => .int
  | 12 => .array .int
  | 13 => .int
  | 14 => .array .int
  | 15 => .int
  | 16 => .array .int
  | 17 => .array .int
  | 18 => .array .int
  | 19 => .array .int
  | 20 => .array .int
  | 21 => .int
  | 22 => .int
  | 23 => .array .int
  | 24 => .array .int
  | 25 => .array .int
  | _ => .array .boolean
abbrev wsX100 : List Cond := u_ws RX10 TX10 27
theorem nmX10 : ∀ a, a < 27 → ∀ b, b < 27 → a ≠ b → (TX10 a).2.1 ≠ (TX10 b).2.1 := by decide +kernel
theorem tyX10_ok : ∀ k, k < 27 → parseFieldDescriptor (TX10 k).2.2.1 = some (tyX10 k) := by decide +kernel
def RL : String := "ActsPaidLaw"
abbrev vwCl : List vw_C := [(RX0, TX0, 1), (RX1, TX1, 6), (RX2, TX2, 2), (RX3, TX3, 2), (RX4, TX4, 1), (RX6, TX6, 2), (RX7, TX7, 4), (RX8, TX8, 12), (RX9, TX9, 9), (RX10, TX10, 27)]
end
section
/-! ===== a small machine over the cells of this system: values, layout, memory ===== -/
abbrev MV : Type := Int32 ⊕ (Int64 ⊕ ((Nat × Nat × Nat) ⊕ Unit))
abbrev mI (x : Int32) : MV := .inl x
abbrev mJ (x : Int64) : MV := .inr (.inl x)
abbrev mR (k t c : Nat) : MV := .inr (.inr (.inl (k, t, c)))
abbrev mO (t c : Nat) : MV := mR 0 t c
abbrev mA (n c : Nat) : MV := mR 1 n c
abbrev mZ (n c : Nat) : MV := mR 2 n c
abbrev mQ : MV := mR 3 0 0
abbrev mU : MV := .inr (.inr (.inr ()))
abbrev Mm : Type := Nat → Nat → Int32
def mS (μ : Mm) (c k : Nat) (x : Int32) : Mm := fun c' k' => if c' = c ∧ k' = k then x else μ c' k'
abbrev Sp : Type := List MV → Mm → (MV → Mm → Prop) → Prop
/-- the cells: (class, 0) an object, (20, n) a row of n ints, (21, n) of n booleans -/
def lyS : List (Nat × Nat) := [(7, 0), (20, 6), (20, 48), (20, 6), (20, 6), (20, 8), (6, 0), (20, 6), (20, 6), (20, 6)]
def lyL : List (Nat × Nat) := [(8, 0), (3, 0), (20, 48)] ++ lyS ++ lyS ++ [(2, 0)] ++ lyS ++ [(2, 0)] ++ lyS ++ [(4, 0), (20, 6), (5, 0), (20, 2048), (20, 8), (1, 0), (20, 100), (20, 100), (0, 0), (20, 8)] ++ [(9, 0), (20, 48), (20, 6), (20, 6), (20, 6), (20, 8), (20, 18), (20, 48), (20, 8), (20, 8), (20, 8), (20, 8), (20, 8), (20, 200), (20, 8), (20, 200), (21, 2)]
/-- the fields of a class: (0, ..) int, (1, ..) boolean, (2, off, t) an object of class t at the cell's number and off, (3, off, n) a row of ints, (4, off, n) of booleans -/
def foL : List (List (Nat × Nat × Nat)) := [
  [(3, 1, 8)],
  [(0, 0, 0), (0, 0, 0), (0, 0, 0), (0, 0, 0), (3, 1, 100), (3, 2, 100)],
  [(2, 1, 7), (1, 0, 0)],
  [(3, 1, 48), (0, 0, 0)],
  [(3, 1, 6)],
  [(3, 1, 2048), (3, 2, 8)],
  [(0, 0, 0), (3, 1, 6), (3, 2, 6), (3, 3, 6)],
  [(0, 0, 0), (0, 0, 0), (0, 0, 0), (0, 0, 0), (0, 0, 0), (0, 0, 0), (3, 1, 6), (3, 2, 48), (3, 3, 6), (3, 4, 6), (3, 5, 8), (2, 6, 6)],
  [(2, 1, 3), (2, 3, 7), (2, 13, 7), (2, 23, 2), (2, 34, 2), (2, 45, 4), (2, 47, 5), (2, 50, 1), (2, 53, 0)],
  [(0, 0, 0), (0, 0, 0), (0, 0, 0), (0, 0, 0), (0, 0, 0), (0, 0, 0), (3, 1, 48), (3, 2, 6), (3, 3, 6), (3, 4, 6), (3, 5, 8), (0, 0, 0), (3, 6, 18), (0, 0, 0), (3, 7, 48), (0, 0, 0), (3, 8, 8), (3, 9, 8), (3, 10, 8), (3, 11, 8), (3, 12, 8), (0, 0, 0), (0, 0, 0), (3, 13, 200), (3, 14, 8), (3, 15, 200), (4, 16, 2)]]
def fo (t k : Nat) : Nat × Nat × Nat := (foL.getD t []).getD k (9, 0, 0)
def mF (μ : Mm) (c k : Nat) (f : Nat × Nat × Nat) : MV := match f with
  | (0, _, _) => mI (μ c k)
  | (1, _, _) => mI (μ c k)
  | (2, off, t) => mO t (c + off)
  | (3, off, n) => mA n (c + off)
  | (_, off, n) => mZ n (c + off)
def tv (ad : Nat → Nat) (b : Nat) (v : MV) : Value := match v with
  | .inl x => .int x
  | .inr (.inl x) => .long x
  | .inr (.inr (.inl (k, _, c))) => if k = 3 then .ref b else .ref (ad c)
  | .inr (.inr (.inr _)) => .null
def wtv (sc : Bool) (v : MV) : Prop := match v with
  | .inl _ => True
  | .inr (.inl _) => True
  | .inr (.inr (.inl (k, t, c))) => if k = 3 then sc = true else if k = 0 then lyL[c]? = some (t, 0) ∧ t < 10 else if k = 1 then lyL[c]? = some (20, t) else k = 2 ∧ lyL[c]? = some (21, t)
  | .inr (.inr (.inr _)) => True
def cE (ad : Nat → Nat) (cI cB : Nat) (μ : Mm) (c : Nat) (q : Nat × Nat) : va_E :=
  if q.1 = 20 then .inl (cI, q.2, .inl (μ c)) else if q.1 = 21 then .inl (cB, q.2, .inl (μ c)) else .inr (q.1, (foL.getD q.1 []).mapIdx (fun k f => tv ad 0 (mF μ c k f)))
def wl (ad : Nat → Nat) (cI cB : Nat) (μ : Mm) : va_W := lyL.mapIdx (fun c q => (ad c, cE ad cI cB μ c q))
abbrev ty2 (cI cB : Nat) : List (ClassId × FieldType) := [(cI, .int), (cB, .boolean)]
def vI (v : MV) : Int32 := match v with
  | .inl x => x
  | _ => 0
def vJ (v : MV) : Int64 := match v with
  | .inr (.inl x) => x
  | _ => 0
def vC (v : MV) : Nat := match v with
  | .inr (.inr (.inl q)) => q.2.2
  | _ => 0
def zb (x : Int32) : Prop := x = 0 ∨ x = 1
def vi (i : Int32) (n : Nat) : Prop := 0 ≤ i.toInt ∧ i.toInt < n
def ctS : List MV → Nat
  | [] => 0
  | .inr (.inl _) :: S => 2 + ctS S
  | _ :: S => 1 + ctS S
/-- an instruction: what it is, a number, a long, three numbers (an index, a place or target ..), a table of targets -/
abbrev Ao : Type := Nat × Int32 × Int64 × Nat × Nat × Nat × List (Int32 × Nat)
/-- a call: how many values it takes, what it answers (0 nothing, 1 int, 2 long, 3 an object of the class behind), the receiver's class and 1 (0: static), what it does -/
abbrev Ce : Type := Nat × Nat × Nat × Nat × Sp
/-- a method: code, calls, what it answers (4: a boolean), of which class, has it longs; a script -/
abbrev Ev : Type := List (Nat × Ao) × List (Nat × Ce) × Nat × Nat × Bool × Nat × (Nat → Int32)
def lk {α : Type} : List (Nat × α) → Nat → Option α
  | [], _ => none
  | q :: r, k => bif Nat.beq q.1 k then some q.2 else lk r k
def clr (L : List MV) (a : Nat) : List MV := match a with
  | 0 => L
  | a' + 1 => match L[a']? with
    | some (.inr (.inl _)) => L.set a' mU
    | _ => L
def sto (lg : Bool) (L : List MV) (a : Nat) (v : MV) : List MV := bif lg then (clr L a).set a v else L.set a v
def bop (tag : Nat) (x y : Int32) : Int32 := match tag with
  | 19 => x + y
  | 20 => x - y
  | 21 => x * y
  | 25 => x &&& y
  | 26 => x ||| y
  | 27 => x ^^^ y
  | 28 => x <<< (y &&& 31)
  | 29 => x >>> (y &&& 31)
  | _ => (x.toUInt32 >>> (y.toUInt32 &&& Int32.toUInt32 31)).toInt32
def swt (J : List (Int32 × Nat)) (d : Nat) (x : Int32) (P : Nat → Prop) : Prop := match J with
  | [] => P d
  | q :: r => if x = q.1 then P q.2 else swt r d x P
def rck (rc : Nat) (As : List MV) : Bool := match rc with
  | 0 => true
  | t + 1 => match As with
    | .inr (.inr (.inl (0, t', _))) :: _ => Nat.beq t' t
    | _ => false
def cll (ce : Option Ce) (S : List MV) (μ : Mm) (k : List MV → Mm → Prop) : Prop := match ce with
  | some (n, kind, rt, rc, sp) => bif Nat.ble n S.length && (Nat.ble (ctS (S.drop n)) 8 && rck rc (S.take n).reverse) then sp (S.take n).reverse μ (fun v μ1 => match kind with
    | 0 => k (S.drop n) μ1
    | 1 => k (mI (vI v) :: S.drop n) μ1
    | 2 => k (mJ (vJ v) :: S.drop n) μ1
    | _ => k (mO rt (vC v) :: S.drop n) μ1) else False
  | none => False
section STP
variable (E : Ev) (K : MV → Mm → Prop) (P : Nat → List MV → List MV → Mm → Prop)
/-- what an instruction asks, so that P holds behind it -/
def opx (pc : Nat) (L S : List MV) (μ : Mm) (o : Ao) : Prop := match o with
  | (tag, v, w, a, b, _, J) => match tag with
    | 0 => P (pc + 1) L (mI v :: S) μ
    | 1 => P (pc + 2) L (mI v :: S) μ
    | 2 => P (pc + 3) L (mI v :: S) μ
    | 3 => P (pc + 2) L (mI v :: S) μ
    | 4 => P (pc + 3) L (mI v :: S) μ
    | 5 => P (pc + 1) L (mJ w :: S) μ
    | 6 => P (pc + 3) L (mJ w :: S) μ
    | 7 => match L[a]? with
      | some (.inl x) => P (pc + 1) L (mI x :: S) μ
      | _ => False
    | 8 => match L[a]? with
      | some (.inl x) => P (pc + 2) L (mI x :: S) μ
      | _ => False
    | 9 => match L[a]? with
      | some (.inr (.inr (.inl r))) => P (pc + 1) L (.inr (.inr (.inl r)) :: S) μ
      | _ => False
    | 10 => match L[a]? with
      | some (.inr (.inr (.inl r))) => P (pc + 2) L (.inr (.inr (.inl r)) :: S) μ
      | _ => False
    | 11 => match L[a]? with
      | some (.inr (.inl x)) => P (pc + 1) L (mJ x :: S) μ
      | _ => False
    | 12 => match L[a]? with
      | some (.inr (.inl x)) => P (pc + 2) L (mJ x :: S) μ
      | _ => False
    | 13 => match S with
      | .inl x :: S => P (pc + 1) (sto E.2.2.2.2.1 L a (mI x)) S μ
      | _ => False
    | 14 => match S with
      | .inl x :: S => P (pc + 2) (sto E.2.2.2.2.1 L a (mI x)) S μ
      | _ => False
    | 15 => match S with
      | .inr (.inr (.inl r)) :: S => P (pc + 1) (sto E.2.2.2.2.1 L a (.inr (.inr (.inl r)))) S μ
      | _ => False
    | 16 => match S with
      | .inr (.inr (.inl r)) :: S => P (pc + 2) (sto E.2.2.2.2.1 L a (.inr (.inr (.inl r)))) S μ
      | _ => False
    | 17 => match S with
      | .inr (.inl x) :: S => bif E.2.2.2.2.1 then P (pc + 1) ((sto true L a (mJ x)).set (a + 1) mU) S μ else False
      | _ => False
    | 18 => match S with
      | .inr (.inl x) :: S => bif E.2.2.2.2.1 then P (pc + 2) ((sto true L a (mJ x)).set (a + 1) mU) S μ else False
      | _ => False
    | 22 => match S with
      | .inl y :: .inl x :: S => ¬ y = 0 ∧ P (pc + 1) L (mI (x / y) :: S) μ
      | _ => False
    | 23 => match S with
      | .inl y :: .inl x :: S => ¬ y = 0 ∧ P (pc + 1) L (mI (x - x / y * y) :: S) μ
      | _ => False
    | 24 => match S with
      | .inl x :: S => P (pc + 1) L (mI (-x) :: S) μ
      | _ => False
    | 31 => match S with
      | .inr (.inl y) :: .inr (.inl x) :: S => P (pc + 1) L (mJ (x + y) :: S) μ
      | _ => False
    | 32 => match S with
      | .inr (.inl y) :: .inr (.inl x) :: S => P (pc + 1) L (mJ (x * y) :: S) μ
      | _ => False
    | 33 => match S with
      | .inr (.inl y) :: .inr (.inl x) :: S => ¬ y = 0 ∧ P (pc + 1) L (mJ (x / y) :: S) μ
      | _ => False
    | 34 => match S with
      | .inr (.inl y) :: .inr (.inl x) :: S => ¬ y = 0 ∧ P (pc + 1) L (mJ (x - x / y * y) :: S) μ
      | _ => False
    | 35 => match S with
      | .inr (.inl y) :: .inr (.inl x) :: S => P (pc + 1) L (mI (lg_cmp x y) :: S) μ
      | _ => False
    | 36 => match S with
      | .inl x :: S => P (pc + 1) L (mJ x.toInt64 :: S) μ
      | _ => False
    | 37 => match S with
      | .inl x :: S => P (pc + 1) L (.inl x :: .inl x :: S) μ
      | .inr (.inr (.inl r)) :: S => P (pc + 1) L (.inr (.inr (.inl r)) :: .inr (.inr (.inl r)) :: S) μ
      | _ => False
    | 38 => match S with
      | .inl x :: .inr (.inr (.inl r)) :: S => P (pc + 1) L (.inl x :: .inr (.inr (.inl r)) :: .inl x :: .inr (.inr (.inl r)) :: S) μ
      | _ => False
    | 39 => match L[a]? with
      | some (.inl x) => P (pc + 3) (sto E.2.2.2.2.1 L a (mI (x + v))) S μ
      | _ => False
    | 40 => P a L S μ
    | 41 => match S with
      | .inl x :: S => if x = 0 then P a L S μ else P (pc + 3) L S μ
      | _ => False
    | 42 => match S with
      | .inl x :: S => if x = 0 then P (pc + 3) L S μ else P a L S μ
      | _ => False
    | 43 => match S with
      | .inl x :: S => if x < 0 then P a L S μ else P (pc + 3) L S μ
      | _ => False
    | 44 => match S with
      | .inl x :: S => if 0 ≤ x then P a L S μ else P (pc + 3) L S μ
      | _ => False
    | 45 => match S with
      | .inl x :: S => if 0 < x then P a L S μ else P (pc + 3) L S μ
      | _ => False
    | 46 => match S with
      | .inl x :: S => if x ≤ 0 then P a L S μ else P (pc + 3) L S μ
      | _ => False
    | 47 => match S with
      | .inl y :: .inl x :: S => if x = y then P a L S μ else P (pc + 3) L S μ
      | _ => False
    | 48 => match S with
      | .inl y :: .inl x :: S => if x = y then P (pc + 3) L S μ else P a L S μ
      | _ => False
    | 49 => match S with
      | .inl y :: .inl x :: S => if x < y then P a L S μ else P (pc + 3) L S μ
      | _ => False
    | 50 => match S with
      | .inl y :: .inl x :: S => if y ≤ x then P a L S μ else P (pc + 3) L S μ
      | _ => False
    | 51 => match S with
      | .inl y :: .inl x :: S => if y < x then P a L S μ else P (pc + 3) L S μ
      | _ => False
    | 52 => match S with
      | .inl y :: .inl x :: S => if x ≤ y then P a L S μ else P (pc + 3) L S μ
      | _ => False
    | 53 => match S with
      | .inr (.inr (.inl _)) :: S => P (pc + 3) L S μ
      | _ => False
    | 54 => match S with
      | .inr (.inr (.inl _)) :: S => P a L S μ
      | _ => False
    | 55 => match S with
      | .inr (.inr (.inl (0, t, c))) :: S => bif Nat.beq t (b / 32) then P (pc + 3) L (mF μ c (b % 32) (fo (b / 32) (b % 32)) :: S) μ else False
      | _ => False
    | 56 => match S with
      | .inl x :: .inr (.inr (.inl (0, t, c))) :: S => bif Nat.beq t (b / 32) then (match fo (b / 32) (b % 32) with
        | (0, _, _) => P (pc + 3) L S (mS μ c (b % 32) x)
        | (1, _, _) => zb x ∧ P (pc + 3) L S (mS μ c (b % 32) x)
        | _ => False) else False
      | _ => False
    | 57 => match S with
      | .inl i :: .inr (.inr (.inl (1, n, c))) :: S => vi i n ∧ P (pc + 1) L (mI (μ c i.toNatClampNeg) :: S) μ
      | .inl i :: .inr (.inr (.inl (3, _, _))) :: S => vi i E.2.2.2.2.2.1 ∧ P (pc + 1) L (mI (E.2.2.2.2.2.2 i.toNatClampNeg) :: S) μ
      | _ => False
    | 58 => match S with
      | .inl x :: .inl i :: .inr (.inr (.inl (1, n, c))) :: S => vi i n ∧ P (pc + 1) L S (mS μ c i.toNatClampNeg x)
      | _ => False
    | 59 => match S with
      | .inl i :: .inr (.inr (.inl (2, n, c))) :: S => vi i n ∧ P (pc + 1) L (mI (μ c i.toNatClampNeg) :: S) μ
      | _ => False
    | 60 => match S with
      | .inl x :: .inl i :: .inr (.inr (.inl (2, n, c))) :: S => (zb x ∧ vi i n) ∧ P (pc + 1) L S (mS μ c i.toNatClampNeg x)
      | _ => False
    | 61 => match S with
      | .inr (.inr (.inl (1, n, _))) :: S => P (pc + 1) L (mI (nI n) :: S) μ
      | .inr (.inr (.inl (3, _, _))) :: S => P (pc + 1) L (mI (nI E.2.2.2.2.2.1) :: S) μ
      | _ => False
    | 62 => cll (lk E.2.1 a) S μ (fun S μ => P (pc + 3) L S μ)
    | 63 => cll (lk E.2.1 a) S μ (fun S μ => P (pc + 3) L S μ)
    | 64 => match S, E.2.2.1 with
      | [.inl x], 1 => K (mI x) μ
      | [.inl x], 4 => zb x ∧ K (mI x) μ
      | _, _ => False
    | 65 => match S, E.2.2.1 with
      | [.inr (.inl x)], 2 => K (mJ x) μ
      | _, _ => False
    | 66 => match S, E.2.2.1 with
      | [], 0 => K mU μ
      | _, _ => False
    | 67 => match S, E.2.2.1 with
      | [.inr (.inr (.inl (0, t, c)))], 3 => bif Nat.beq t E.2.2.2.1 then K (mO t c) μ else False
      | _, _ => False
    | 68 => match S with
      | .inl x :: S => swt J a x (fun t => P t L S μ)
      | _ => False
    | 69 => match S with
      | .inl x :: S => swt J a x (fun t => P t L S μ)
      | _ => False
    | _ => match S with
      | .inl y :: .inl x :: S => P (pc + 1) L (mI (bop tag x y) :: S) μ
      | _ => False
def stp (pc : Nat) (L S : List MV) (μ : Mm) : Prop := match lk E.1 pc with
  | some o => opx E K P pc L S μ o
  | none => False
end STP
/-- from here the method ends with K -/
def Tot (E : Ev) (K : MV → Mm → Prop) (pc : Nat) (L S : List MV) (μ : Mm) : Prop := ∀ P : Nat → List MV → List MV → Mm → Prop, (∀ pc L S μ, stp E K P pc L S μ → P pc L S μ) → P pc L S μ
def ex (E : Ev) (cuts : List Nat) (K : MV → Mm → Prop) (F : Nat → List MV → List MV → Mm → Prop) : Nat → Nat → List MV → List MV → Mm → Prop
  | 0, _, _, _, _ => False
  | n + 1, pc, L, S, μ => stp E K (fun pc L S μ => bif cuts.elem pc then F pc L S μ else ex E cuts K F n pc L S μ) pc L S μ
def mono (sp : Sp) : Prop := ∀ (As : List MV) (μ : Mm) (K K' : MV → Mm → Prop), (∀ v μ, K v μ → K' v μ) → sp As μ K → sp As μ K'
def monoE (E : Ev) : Prop := ∀ a ce, lk E.2.1 a = some ce → mono ce.2.2.2.2
theorem swt_mono {J : List (Int32 × Nat)} {d : Nat} {x : Int32} {P P' : Nat → Prop} (h : ∀ t, P t → P' t) : swt J d x P → swt J d x P' := by
  induction J with
  | nil => exact h d
  | cons q r ih =>
    intro g
    unfold swt at g ⊢
    split
    · rename_i e
      rw [if_pos e] at g
      exact h _ g
    · rename_i e
      rw [if_neg e] at g
      exact ih g
theorem cll_mono {ce : Option Ce} (hm : ∀ c, ce = some c → mono c.2.2.2.2) {S : List MV} {μ : Mm} {k k' : List MV → Mm → Prop} (h : ∀ S μ, k S μ → k' S μ) : cll ce S μ k → cll ce S μ k' := by
  intro g
  match ce, hm, g with
  | some (n, kind, rt, rc, sp), hm, g =>
    unfold cll at g ⊢
    simp only at g ⊢
    cases hb : (Nat.ble n S.length && (Nat.ble (ctS (S.drop n)) 8 && rck rc (S.take n).reverse)) with
    | false => rw [hb] at g; exact g.elim
    | true =>
      rw [hb] at g
      refine hm _ rfl _ _ _ _ ?_ g
      intro v μ1
      split <;> exact h _ _
  | none, _, g => exact g.elim
set_option maxHeartbeats 4000000 in
theorem opx_mono {E : Ev} (hm : monoE E) {K K' : MV → Mm → Prop} {P P' : Nat → List MV → List MV → Mm → Prop} (hK : ∀ v μ, K v μ → K' v μ) (hP : ∀ pc L S μ, P pc L S μ → P' pc L S μ) {pc : Nat} {L S : List MV} {μ : Mm} {o : Ao} : opx E K P pc L S μ o → opx E K' P' pc L S μ o := by
  obtain ⟨tag, v, w, a, b, c, J⟩ := o
  unfold opx
  simp only
  split
  all_goals first
    | exact hP _ _ _ _
    | exact cll_mono (hm a) (fun _ _ => hP _ _ _ _)
    | (split <;> first
        | exact hP _ _ _ _
        | exact hK _ _
        | exact fun g => g.elim
        | exact fun g => ⟨g.1, hP _ _ _ _ g.2⟩
        | exact fun g => ⟨g.1, hK _ _ g.2⟩
        | (split <;> exact hP _ _ _ _)
        | exact swt_mono (fun _ => hP _ _ _ _)
        | (cases (Nat.beq _ _ : Bool) <;> first | exact fun g => g.elim | exact hP _ _ _ _ | exact hK _ _ | (simp only [cond_true]; split <;> first | exact hP _ _ _ _ | exact fun g => ⟨g.1, hP _ _ _ _ g.2⟩ | exact fun g => g.elim))
        | (cases E.2.2.2.2.1 <;> first | exact fun g => g.elim | exact hP _ _ _ _))
theorem stp_mono {E : Ev} (hm : monoE E) {K K' : MV → Mm → Prop} {P P' : Nat → List MV → List MV → Mm → Prop} (hK : ∀ v μ, K v μ → K' v μ) (hP : ∀ pc L S μ, P pc L S μ → P' pc L S μ) {pc : Nat} {L S : List MV} {μ : Mm} : stp E K P pc L S μ → stp E K' P' pc L S μ := by
  unfold stp
  cases lk E.1 pc with
  | none => exact fun g => g
  | some o => exact opx_mono hm hK hP
theorem Tot.step {E : Ev} (hm : monoE E) {K : MV → Mm → Prop} {pc : Nat} {L S : List MV} {μ : Mm} (h : stp E K (Tot E K) pc L S μ) : Tot E K pc L S μ := fun P hP => hP _ _ _ _ (stp_mono hm (fun _ _ g => g) (fun pc L S μ g => g P hP) h)
theorem Tot.mono {E : Ev} (hm : monoE E) {K K' : MV → Mm → Prop} (hK : ∀ v μ, K v μ → K' v μ) {pc : Nat} {L S : List MV} {μ : Mm} (h : Tot E K pc L S μ) : Tot E K' pc L S μ := fun P hP => h P (fun _ _ _ _ g => hP _ _ _ _ (stp_mono hm hK (fun _ _ _ _ q => q) g))
/-- a stretch of code, up to the cuts -/
theorem seg {E : Ev} (hm : monoE E) {K : MV → Mm → Prop} (cuts : List Nat) (n : Nat) {pc : Nat} {L S : List MV} {μ : Mm} (h : ex E cuts K (Tot E K) n pc L S μ) : Tot E K pc L S μ := by
  induction n generalizing pc L S μ with
  | zero => exact h.elim
  | succ n ih =>
    refine Tot.step hm (stp_mono hm (fun _ _ g => g) ?_ h)
    intro pc L S μ g
    cases hc : cuts.elem pc with
    | true => rw [hc] at g; exact g
    | false => rw [hc] at g; exact ih g
def en : List MV → Nat → List MV
  | [], n => List.replicate n mU
  | .inr (.inl x) :: vs, n => mJ x :: mU :: en vs (n - 2)
  | v :: vs, n => v :: en vs (n - 1)
/-- what a method does: run it from its first instruction -/
def spc (E : Ev) (nL : Nat) : Sp := fun As μ K => Tot E K 0 (en As nL) [] μ
theorem spc_mono {E : Ev} (hm : monoE E) (nL : Nat) : mono (spc E nL) := fun _ _ _ _ hK h => Tot.mono hm hK h
end
section
/-! ===== the small machine is the machine: locals, world, one instruction ===== -/
def toL (ad : Nat → Nat) (b : Nat) : Nat → List MV → List (Nat × Value)
  | _, [] => []
  | i, v :: vs => match v with
    | .inr (.inr (.inr _)) => toL ad b (i + 1) vs
    | v => (i, tv ad b v) :: toL ad b (i + 1) vs
theorem toL_of {ad : Nat → Nat} {b : Nat} : ∀ (L : List MV) (i k : Nat) (v : MV), L[k]? = some v → v ≠ mU → (i + k, tv ad b v) ∈ toL ad b i L := by
  intro L
  induction L with
  | nil => intro i k v h; simp at h
  | cons x L ih =>
    intro i k v h hv
    unfold toL
    cases k with
    | zero =>
      simp at h
      subst h
      split
      · exact absurd rfl hv
      · exact List.mem_cons_self
    | succ k =>
      have h1 := ih (i + 1) k v (by simpa using h) hv
      have e : i + 1 + k = i + (k + 1) := by omega
      rw [e] at h1
      split
      · exact h1
      · exact List.mem_cons_of_mem _ h1
theorem of_toL {ad : Nat → Nat} {b : Nat} : ∀ (L : List MV) (i : Nat) (q : Nat × Value), q ∈ toL ad b i L → ∃ k v, L[k]? = some v ∧ v ≠ mU ∧ q = (i + k, tv ad b v) := by
  intro L
  induction L with
  | nil => intro i q h; cases h
  | cons x L ih =>
    intro i q h
    unfold toL at h
    split at h
    · obtain ⟨k, v, h1, h2, h3⟩ := ih _ _ h
      exact ⟨k + 1, v, by simpa using h1, h2, by rw [h3]; congr 1; omega⟩
    · rename_i hx
      rcases List.mem_cons.mp h with h | h
      · exact ⟨0, x, rfl, fun e => hx _ e, by rw [h]; rfl⟩
      · obtain ⟨k, v, h1, h2, h3⟩ := ih _ _ h
        exact ⟨k + 1, v, by simpa using h1, h2, by rw [h3]; congr 1; omega⟩
def lR (ad : Nat → Nat) (b nL : Nat) (lg : Bool) (ls : Array Slot) (L : List MV) : Prop :=
  lv_has ls nL (toL ad b 0 L) ∧ L.length = nL ∧ (lg = false → ∀ (i : Nat) (x : Int64), L[i]? ≠ some (mJ x))
theorem lR.at {ad : Nat → Nat} {b nL : Nat} {lg : Bool} {ls : Array Slot} {L : List MV} (h : lR ad b nL lg ls L) {i : Nat} {v : MV} (hi : L[i]? = some v) (hv : v ≠ mU) : ls[i]? = some (.val (tv ad b v)) := by
  have h1 := h.1.2.2 _ (toL_of (ad := ad) (b := b) L 0 i v hi hv)
  simpa using h1
theorem tv_cat {ad : Nat → Nat} {b : Nat} {v : MV} (h : ∀ x, v ≠ mJ x) : (tv ad b v).category = 1 := by
  match v, h with
  | .inl x, _ => rfl
  | .inr (.inl x), h => exact absurd rfl (h x)
  | .inr (.inr (.inl (k, t, c))), _ =>
    unfold tv
    simp only
    split <;> rfl
  | .inr (.inr (.inr _)), _ => rfl
theorem clr_len (L : List MV) (a : Nat) : (clr L a).length = L.length := by
  unfold clr
  split
  · rfl
  · split <;> simp
theorem sto_len (lg : Bool) (L : List MV) (a : Nat) (v : MV) : (sto lg L a v).length = L.length := by
  cases lg <;> simp [sto, clr_len]
theorem clr_get {L : List MV} {a j : Nat} {w : MV} (h : (clr L a)[j]? = some w) (hw : w ≠ mU) : L[j]? = some w ∧ (j + 1 = a → ∀ x, w ≠ mJ x) := by
  unfold clr at h
  split at h
  · exact ⟨h, fun e => by omega⟩
  · rename_i a'
    split at h
    · rename_i x hx
      by_cases e : a' = j
      · subst e
        rw [List.getElem?_set_self (List.getElem?_eq_some_iff.mp hx).1] at h
        exact absurd (Option.some.inj h).symm hw
      · rw [List.getElem?_set_ne e] at h
        exact ⟨h, fun e2 => absurd (by omega) e⟩
    · rename_i hx
      refine ⟨h, fun e2 x e3 => ?_⟩
      have e4 : a' = j := by omega
      subst e4; subst e3
      exact hx x h
theorem sto_get {lg : Bool} {L : List MV} {a j : Nat} {v w : MV} (hj : j ≠ a) (h : (sto lg L a v)[j]? = some w) (hw : w ≠ mU) : L[j]? = some w ∧ (lg = true → j + 1 = a → ∀ x, w ≠ mJ x) := by
  cases lg with
  | false =>
    unfold sto at h
    rw [cond_false, List.getElem?_set_ne (fun e => hj e.symm)] at h
    exact ⟨h, fun e => by cases e⟩
  | true =>
    unfold sto at h
    rw [cond_true, List.getElem?_set_ne (fun e => hj e.symm)] at h
    exact ⟨(clr_get h hw).1, fun _ => (clr_get h hw).2⟩
theorem sto_at {lg : Bool} {L : List MV} {a : Nat} {v : MV} (h : a < L.length) : (sto lg L a v)[a]? = some v := by
  cases lg with
  | false => unfold sto; rw [cond_false, List.getElem?_set_self h]
  | true => unfold sto; rw [cond_true, List.getElem?_set_self (by rw [clr_len]; exact h)]
theorem sto_wt {sc : Bool} {lg : Bool} {L : List MV} {a : Nat} {v : MV} (h : ∀ w ∈ L, wtv sc w) (hv : wtv sc v) : ∀ w ∈ sto lg L a v, wtv sc w := by
  intro w hw
  by_cases e : w = mU
  · subst e; trivial
  obtain ⟨j, hj⟩ := List.getElem?_of_mem hw
  by_cases hja : j = a
  · subst hja
    have hl : j < (sto lg L j v).length := (List.getElem?_eq_some_iff.mp hj).1
    rw [sto_len] at hl
    rw [sto_at hl] at hj
    rw [← Option.some.inj hj]; exact hv
  · exact h w (List.mem_of_getElem? (sto_get hja hj e).1)
theorem lR.sto1 {ad : Nat → Nat} {b nL : Nat} {lg : Bool} {ls ls' : Array Slot} {L : List MV} {a : Nat} {v : MV} (h : lR ad b nL lg ls L) (ha : a < nL) (hv : v ≠ mU) (hJ : ∀ x, v ≠ mJ x)
    (h' : lv_has ls' nL ((a, tv ad b v) :: (toL ad b 0 L).filter (fun q => !(q.1 == a) && !(q.1 + 1 == a && q.2.category == 2)))) : lR ad b nL lg ls' (sto lg L a v) := by
  refine ⟨⟨h'.1, h'.2.1, fun q hq => ?_⟩, by rw [sto_len]; exact h.2.1, fun e i x hx => ?_⟩
  · obtain ⟨k, w, h1, h2, rfl⟩ := of_toL _ _ _ hq
    simp only [Nat.zero_add]
    by_cases hk : k = a
    · subst hk
      rw [sto_at (by rw [h.2.1]; exact ha)] at h1
      rw [← Option.some.inj h1]
      exact h'.2.2 _ List.mem_cons_self
    · obtain ⟨g1, g2⟩ := sto_get hk h1 h2
      refine h'.2.2 (k, tv ad b w) (List.mem_cons_of_mem _ (List.mem_filter.mpr ⟨by simpa using toL_of (ad := ad) (b := b) L 0 k w g1 h2, ?_⟩))
      have hc : k + 1 = a → (tv ad b w).category = 1 := by
        intro e
        refine tv_cat ?_
        cases lg with
        | false => exact fun x hx => h.2.2 rfl k x (by rw [g1, hx])
        | true => exact g2 rfl e
      simp only [Bool.and_eq_true, Bool.not_eq_true', beq_eq_false_iff_ne, ne_eq]
      refine ⟨hk, ?_⟩
      cases hz : (k + 1 == a) with
      | false => rfl
      | true =>
        rw [hc (by simpa using hz)]; rfl
  · by_cases hi : i = a
    · subst hi
      rw [sto_at (by rw [h.2.1]; exact ha)] at hx
      exact hJ x (Option.some.inj hx)
    · exact h.2.2 e i x (sto_get hi hx (by intro e; cases e)).1
theorem lR.sto2 {ad : Nat → Nat} {b nL : Nat} {ls ls' : Array Slot} {L : List MV} {a : Nat} {x : Int64} (h : lR ad b nL true ls L) (ha : a + 1 < nL)
    (h' : lv_has ls' nL ((a, .long x) :: (toL ad b 0 L).filter (fun q => !(q.1 == a) && (!(q.1 == a + 1) && !(q.1 + 1 == a && q.2.category == 2))))) : lR ad b nL true ls' ((sto true L a (mJ x)).set (a + 1) mU) := by
  refine ⟨⟨h'.1, h'.2.1, fun q hq => ?_⟩, by rw [List.length_set, sto_len]; exact h.2.1, fun e => by cases e⟩
  obtain ⟨k, w, h1, h2, rfl⟩ := of_toL _ _ _ hq
  simp only [Nat.zero_add]
  by_cases hk1 : a + 1 = k
  · subst hk1
    rw [List.getElem?_set_self (by rw [sto_len, h.2.1]; exact ha)] at h1
    exact absurd (Option.some.inj h1).symm h2
  rw [List.getElem?_set_ne hk1] at h1
  by_cases hk : k = a
  · subst hk
    rw [sto_at (by rw [h.2.1]; omega)] at h1
    rw [← Option.some.inj h1]
    exact h'.2.2 _ List.mem_cons_self
  · obtain ⟨g1, g2⟩ := sto_get hk h1 h2
    refine h'.2.2 (k, tv ad b w) (List.mem_cons_of_mem _ (List.mem_filter.mpr ⟨by simpa using toL_of (ad := ad) (b := b) L 0 k w g1 h2, ?_⟩))
    simp only [Bool.and_eq_true, Bool.not_eq_true', beq_eq_false_iff_ne, ne_eq]
    refine ⟨hk, fun e => hk1 e.symm, ?_⟩
    cases hz : (k + 1 == a) with
    | false => rfl
    | true =>
      rw [tv_cat (g2 rfl (by simpa using hz))]; rfl
-- the world
theorem wl_get {ad : Nat → Nat} {cI cB : Nat} {μ : Mm} {k : Nat} {q : Nat × Nat} (h : lyL[k]? = some q) : (wl ad cI cB μ)[k]? = some (ad k, cE ad cI cB μ k q) := by
  unfold wl
  rw [List.getElem?_mapIdx, h]
  rfl
theorem wl_inv {ad : Nat → Nat} {cI cB : Nat} {μ : Mm} {k : Nat} {x : Nat × va_E} (h : (wl ad cI cB μ)[k]? = some x) : ∃ q, lyL[k]? = some q ∧ x = (ad k, cE ad cI cB μ k q) := by
  unfold wl at h
  rw [List.getElem?_mapIdx] at h
  cases hq : lyL[k]? with
  | none => rw [hq] at h; cases h
  | some q => rw [hq] at h; exact ⟨q, rfl, (Option.some.inj h).symm⟩
theorem wl_D {A : Nat → Prop} {ad : Nat → Nat} {cI cB : Nat} {μ : Mm} (h : va_D A (wl ad cI cB μ)) (μ' : Mm) : va_D A (wl ad cI cB μ') := by
  refine ⟨fun i j p q hi hj e => ?_, fun k q hk => ?_⟩
  · obtain ⟨x, h1, rfl⟩ := wl_inv hi
    obtain ⟨y, h2, rfl⟩ := wl_inv hj
    exact h.1 i j _ _ (wl_get h1) (wl_get h2) e
  · obtain ⟨x, h1, rfl⟩ := wl_inv hk
    exact h.2 k (ad k, cE ad cI cB μ k x) (wl_get h1)
theorem mS_ne {μ : Mm} {c k : Nat} {x : Int32} {c' k' : Nat} (h : ¬ (c' = c ∧ k' = k)) : mS μ c k x c' k' = μ c' k' := if_neg h
theorem mS_eq {μ : Mm} {c k : Nat} {x : Int32} : mS μ c k x c k = x := if_pos ⟨rfl, rfl⟩
theorem mF_ne {ad : Nat → Nat} {b : Nat} {μ : Mm} {c k : Nat} {x : Int32} {c' k' : Nat} (h : ¬ (c' = c ∧ k' = k)) (f : Nat × Nat × Nat) : tv ad b (mF (mS μ c k x) c' k' f) = tv ad b (mF μ c' k' f) := by
  unfold mF
  split <;> first | rfl | (rw [mS_ne h])
theorem cE_ne {ad : Nat → Nat} {cI cB : Nat} {μ : Mm} {c k : Nat} {x : Int32} {c' : Nat} (h : c' ≠ c) (q : Nat × Nat) : cE ad cI cB (mS μ c k x) c' q = cE ad cI cB μ c' q := by
  have e : ∀ k', mS μ c k x c' k' = μ c' k' := fun k' => mS_ne (fun z => h z.1)
  have e2 : mS μ c k x c' = μ c' := funext e
  unfold cE
  rw [e2]
  have e3 : (fun (k' : Nat) (f : Nat × Nat × Nat) => tv ad 0 (mF (mS μ c k x) c' k' f)) = (fun k' f => tv ad 0 (mF μ c' k' f)) := by
    funext k' f
    exact mF_ne (fun z => h z.1) f
  rw [e3]
theorem wl_set {ad : Nat → Nat} {cI cB : Nat} {μ : Mm} {c k : Nat} {x : Int32} {q : Nat × Nat} {v : va_E} (h : lyL[c]? = some q) (hv : v = cE ad cI cB (mS μ c k x) c q) : (wl ad cI cB μ).set c (ad c, v) = wl ad cI cB (mS μ c k x) := by
  apply List.ext_getElem?
  intro i
  by_cases hi : c = i
  · subst hi
    rw [wl_get h, List.getElem?_set_self (List.getElem?_eq_some_iff.mp (wl_get (ad := ad) (cI := cI) (cB := cB) (μ := μ) h)).1, hv]
  · rw [List.getElem?_set_ne hi]
    unfold wl
    rw [List.getElem?_mapIdx, List.getElem?_mapIdx]
    cases lyL[i]? with
    | none => rfl
    | some y => show some (ad i, _) = some (ad i, _); rw [cE_ne (fun e => hi e.symm)]
theorem upd_mS (μ : Mm) (c i : Nat) (x : Int32) : upd (μ c) i x = mS μ c i x c := by
  funext j
  unfold upd mS
  by_cases h : j = i
  · rw [if_pos h, if_pos ⟨rfl, h⟩]
  · rw [if_neg h, if_neg (fun z => h z.2)]
def fsO (ad : Nat → Nat) (μ : Mm) (c t : Nat) : List Value := (foL.getD t []).mapIdx (fun k f => tv ad 0 (mF μ c k f))
theorem fs_get {ad : Nat → Nat} {μ : Mm} {c t k : Nat} (h : k < (foL.getD t []).length) : (fsO ad μ c t)[k]? = some (tv ad 0 (mF μ c k (fo t k))) := by
  unfold fsO fo
  rw [List.getElem?_mapIdx, List.getElem?_eq_getElem h]
  show some _ = some _
  rw [List.getD_eq_getElem?_getD (l := foL.getD t []), List.getElem?_eq_getElem h]
  rfl
theorem fs_set {ad : Nat → Nat} {μ : Mm} {c t k : Nat} {x : Int32} (h : k < (foL.getD t []).length) (hk : (fo t k).1 = 0 ∨ (fo t k).1 = 1) : (fsO ad μ c t).set k (.int x) = fsO ad (mS μ c k x) c t := by
  apply List.ext_getElem?
  intro i
  by_cases hi : k = i
  · subst hi
    rw [fs_get h, List.getElem?_set_self (by unfold fsO; rw [List.length_mapIdx]; exact h)]
    generalize hy : fo t k = y at hk ⊢
    obtain ⟨y0, y1, y2⟩ := y
    rcases hk with e | e <;> (simp only at e; subst e; show some (Value.int x) = some (.int (mS μ c k x c k)); rw [mS_eq])
  · rw [List.getElem?_set_ne hi]
    unfold fsO
    rw [List.getElem?_mapIdx, List.getElem?_mapIdx]
    cases (foL.getD t [])[i]? with
    | none => rfl
    | some y => show some (tv ad 0 (mF μ c i y)) = some (tv ad 0 (mF (mS μ c k x) c i y)); rw [mF_ne (fun z => hi z.2.symm)]
def layB : Bool := (List.range 72).all (fun c => match lyL.getD c (99, 0) with
  | (t, _) => bif Nat.blt t 20 then (List.range (foL.getD t []).length).all (fun k => match fo t k with
    | (2, off, t') => decide (lyL[c + off]? = some (t', 0)) && Nat.blt t' 10
    | (3, off, n) => decide (lyL[c + off]? = some (20, n))
    | (4, off, n) => decide (lyL[c + off]? = some (21, n))
    | (0, _, _) => true
    | (1, _, _) => true
    | _ => false) else true)
theorem layB_ok : layB = true := by decide +kernel
theorem lay_wt {sc : Bool} {μ : Mm} {t c k : Nat} (h : lyL[c]? = some (t, 0)) (ht : t < 10) (hk : k < (foL.getD t []).length) : wtv sc (mF μ c k (fo t k)) := by
  have hc : c < 72 := (List.getElem?_eq_some_iff.mp h).1
  have h1 := List.all_eq_true.mp layB_ok c (List.mem_range.mpr hc)
  rw [List.getD_eq_getElem?_getD, h] at h1
  have hb : Nat.blt t 20 = true := by simp [Nat.blt_eq]; omega
  simp only [Option.getD_some, hb, cond_true] at h1
  have h2 := List.all_eq_true.mp h1 k (List.mem_range.mpr hk)
  generalize hy : fo t k = y at h2 ⊢
  obtain ⟨y0, y1, y2⟩ := y
  match y0, h2 with
  | 0, _ => exact trivial
  | 1, _ => exact trivial
  | 2, h2 =>
    simp only [Bool.and_eq_true, decide_eq_true_eq, Nat.blt_eq] at h2
    exact h2
  | 3, h2 =>
    simp only [decide_eq_true_eq] at h2
    exact h2
  | 4, h2 =>
    simp only [decide_eq_true_eq] at h2
    exact ⟨rfl, h2⟩
  | n + 5, h2 => cases h2
theorem tv_mF {ad : Nat → Nat} {b : Nat} {μ : Mm} {c k : Nat} (f : Nat × Nat × Nat) : tv ad b (mF μ c k f) = tv ad 0 (mF μ c k f) := by
  unfold mF
  split <;> rfl
-- the tables' words that every method takes
def lw_g : List Cond := lw_tbl.filter goodWord
theorem mem_g {w : Cond} {i : Nat} (h : lw_tbl[i]? = some w) (hg : goodWord w = true) : w ∈ lw_g := List.mem_filter.mpr ⟨List.mem_of_getElem? h, hg⟩
theorem good_g : ∀ w ∈ lw_g, (w.onTables && w.keeps) = true ∨ ∃ ty, w = .arrayClass ty := fun _ h => good_of_word (List.mem_filter.mp h).2
theorem in_g {ws : List Cond} (h : ws.all (fun w => decide (w ∈ lw_tbl) && goodWord w) = true) : ∀ w ∈ ws, w ∈ lw_g := by
  intro w hw
  have h1 := List.all_eq_true.mp h w hw
  simp only [Bool.and_eq_true, decide_eq_true_eq] at h1
  exact List.mem_filter.mpr h1
-- the classes
def clsOK (ci : Nat) (C : String) (T : u_T) (N : Nat) : Prop := ∃ ty0 : Nat → FieldType, (∀ w ∈ u_ws C T N, w ∈ lw_g) ∧ (∀ k, k < N → parseFieldDescriptor (T k).2.2.1 = some (ty0 k)) ∧ (∀ a, a < N → ∀ b, b < N → a ≠ b → (T a).2.1 ≠ (T b).2.1) ∧ (foL.getD ci []).length = N ∧ ∀ k, k < N → ((fo ci k).1 = 0 → ty0 k = .int ∧ (T k).2.2.2 = false) ∧ ((fo ci k).1 = 1 → ty0 k = .boolean ∧ (T k).2.2.2 = false)
theorem iX0 : ∀ w ∈ wsX00, w ∈ lw_g := in_g (by decide +kernel)
theorem iX1 : ∀ w ∈ wsX10, w ∈ lw_g := in_g (by decide +kernel)
theorem iX2 : ∀ w ∈ wsX20, w ∈ lw_g := in_g (by decide +kernel)
theorem iX3 : ∀ w ∈ wsX30, w ∈ lw_g := in_g (by decide +kernel)
theorem iX4 : ∀ w ∈ wsX40, w ∈ lw_g := in_g (by decide +kernel)
theorem iX6 : ∀ w ∈ wsX60, w ∈ lw_g := in_g (by decide +kernel)
theorem iX7 : ∀ w ∈ wsX70, w ∈ lw_g := in_g (by decide +kernel)
theorem iX8 : ∀ w ∈ wsX80, w ∈ lw_g := in_g (by decide +kernel)
theorem iX9 : ∀ w ∈ wsX90, w ∈ lw_g := in_g (by decide +kernel)
theorem iX10 : ∀ w ∈ wsX100, w ∈ lw_g := in_g (by decide +kernel)
theorem cls_ok : ∀ (ci : Nat) (q : vw_C), vwCl[ci]? = some q → clsOK ci q.1 q.2.1 q.2.2
  | 0, _, rfl => ⟨tyX0, iX0, tyX0_ok, nmX0, rfl, by decide +kernel⟩
  | 1, _, rfl => ⟨tyX1, iX1, tyX1_ok, nmX1, rfl, by decide +kernel⟩
  | 2, _, rfl => ⟨tyX2, iX2, tyX2_ok, nmX2, rfl, by decide +kernel⟩
  | 3, _, rfl => ⟨tyX3, iX3, tyX3_ok, nmX3, rfl, by decide +kernel⟩
  | 4, _, rfl => ⟨tyX4, iX4, tyX4_ok, nmX4, rfl, by decide +kernel⟩
  | 5, _, rfl => ⟨tyX6, iX6, tyX6_ok, nmX6, rfl, by decide +kernel⟩
  | 6, _, rfl => ⟨tyX7, iX7, tyX7_ok, nmX7, rfl, by decide +kernel⟩
  | 7, _, rfl => ⟨tyX8, iX8, tyX8_ok, nmX8, rfl, by decide +kernel⟩
  | 8, _, rfl => ⟨tyX9, iX9, tyX9_ok, nmX9, rfl, by decide +kernel⟩
  | 9, _, rfl => ⟨tyX10, iX10, tyX10_ok, nmX10, rfl, by decide +kernel⟩
  | n + 10, _, h => by simp [vwCl] at h
/-- the two links to a private method of a nest mate -/
def y_within : MethodName := ⟨RX9, "within", "(III)Z"⟩
def nst (U : State) : Prop := va_Nw (.methodLinkNest RX3 40 y_within RX9) U ∧ va_Nw (.methodLinkNest RX8 73 y_within RX9) U
theorem nst.warm {s U : State} (hW : s.WarmedH U.vm) (h : nst s) : nst U := ⟨va_Nw.warmM hW h.1, va_Nw.warmM hW h.2⟩
theorem nst.same {u U : State} (e : u.vm = U.vm) (h : nst u) : nst U := ⟨va_Nw.same rfl e h.1, va_Nw.same rfl e h.2⟩
theorem nst_of {args : Array Value} {s : State} (hts : ∀ w ∈ lw_tbl, w.before args s = true) : nst s := ⟨va_Nw.of rfl (hts _ (by decide +kernel)), va_Nw.of rfl (hts _ (by decide +kernel))⟩
end
