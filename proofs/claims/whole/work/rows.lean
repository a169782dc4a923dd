section
/-- a private method of a class that the tables say can be made, by its rows of tables_1 -/
def lw_okq (q : MethodName × Nat) : Prop := (q.1.cls ≠ "java/lang/invoke/MethodHandle" ∧ q.1.cls ≠ "java/lang/invoke/VarHandle") ∧ Cond.instantiable q.1.cls q.2 ∈ tables_1 ∧ Cond.privateMethod q.1 ∈ tables_1 ∧ Cond.instanceMethod q.1 ∈ tables_1
theorem lw_p0 : lw_okq (⟨"ActsPaid", "tried", "()LActsPaid$Stage;"⟩, 9) := ⟨⟨by decide +kernel, by decide +kernel⟩, List.mem_of_getElem? (i := 15) (by decide +kernel), List.mem_of_getElem? (i := 392) (by decide +kernel), List.mem_of_getElem? (i := 393) (by decide +kernel)⟩
theorem lw_p1 : lw_okq (⟨"ActsPaid", "imageOf", "(I)LActsPaid$Image;"⟩, 9) := ⟨⟨by decide +kernel, by decide +kernel⟩, List.mem_of_getElem? (i := 15) (by decide +kernel), List.mem_of_getElem? (i := 623) (by decide +kernel), List.mem_of_getElem? (i := 624) (by decide +kernel)⟩
theorem lw_p2 : lw_okq (⟨"ActsPaidModel", "plain", "()V"⟩, 27) := ⟨⟨by decide +kernel, by decide +kernel⟩, List.mem_of_getElem? (i := 635) (by decide +kernel), List.mem_of_getElem? (i := 641) (by decide +kernel), List.mem_of_getElem? (i := 642) (by decide +kernel)⟩
theorem lw_p3 : lw_okq (⟨"ActsPaidModel", "guestFault", "()I"⟩, 27) := ⟨⟨by decide +kernel, by decide +kernel⟩, List.mem_of_getElem? (i := 635) (by decide +kernel), List.mem_of_getElem? (i := 751) (by decide +kernel), List.mem_of_getElem? (i := 752) (by decide +kernel)⟩
theorem lw_p4 : lw_okq (⟨"ActsPaidModel", "orderFault", "()I"⟩, 27) := ⟨⟨by decide +kernel, by decide +kernel⟩, List.mem_of_getElem? (i := 635) (by decide +kernel), List.mem_of_getElem? (i := 755) (by decide +kernel), List.mem_of_getElem? (i := 756) (by decide +kernel)⟩
theorem lw_p5 : lw_okq (⟨"ActsPaidModel", "isAct", "(I)Z"⟩, 27) := ⟨⟨by decide +kernel, by decide +kernel⟩, List.mem_of_getElem? (i := 635) (by decide +kernel), List.mem_of_getElem? (i := 759) (by decide +kernel), List.mem_of_getElem? (i := 760) (by decide +kernel)⟩
theorem lw_p6 : lw_okq (⟨"ActsPaidModel", "comes", "(I)Z"⟩, 27) := ⟨⟨by decide +kernel, by decide +kernel⟩, List.mem_of_getElem? (i := 635) (by decide +kernel), List.mem_of_getElem? (i := 777) (by decide +kernel), List.mem_of_getElem? (i := 778) (by decide +kernel)⟩
theorem lw_p7 : lw_okq (⟨"ActsPaidModel", "leavesAt", "(I)I"⟩, 27) := ⟨⟨by decide +kernel, by decide +kernel⟩, List.mem_of_getElem? (i := 635) (by decide +kernel), List.mem_of_getElem? (i := 793) (by decide +kernel), List.mem_of_getElem? (i := 794) (by decide +kernel)⟩
theorem lw_p8 : lw_okq (⟨"ActsPaidModel", "faresOf", "(II)I"⟩, 27) := ⟨⟨by decide +kernel, by decide +kernel⟩, List.mem_of_getElem? (i := 635) (by decide +kernel), List.mem_of_getElem? (i := 797) (by decide +kernel), List.mem_of_getElem? (i := 798) (by decide +kernel)⟩
theorem lw_p9 : lw_okq (⟨"ActsPaidModel", "allTakings", "()I"⟩, 27) := ⟨⟨by decide +kernel, by decide +kernel⟩, List.mem_of_getElem? (i := 635) (by decide +kernel), List.mem_of_getElem? (i := 805) (by decide +kernel), List.mem_of_getElem? (i := 806) (by decide +kernel)⟩
theorem lw_p10 : lw_okq (⟨"ActsPaidModel", "paysOf", "(I)I"⟩, 27) := ⟨⟨by decide +kernel, by decide +kernel⟩, List.mem_of_getElem? (i := 635) (by decide +kernel), List.mem_of_getElem? (i := 809) (by decide +kernel), List.mem_of_getElem? (i := 810) (by decide +kernel)⟩
theorem lw_p11 : lw_okq (⟨"ActsPaidModel", "isAhead", "(II)Z"⟩, 27) := ⟨⟨by decide +kernel, by decide +kernel⟩, List.mem_of_getElem? (i := 635) (by decide +kernel), List.mem_of_getElem? (i := 825) (by decide +kernel), List.mem_of_getElem? (i := 826) (by decide +kernel)⟩
theorem lw_p12 : lw_okq (⟨"ActsPaidModel", "firstRow", "(I)V"⟩, 27) := ⟨⟨by decide +kernel, by decide +kernel⟩, List.mem_of_getElem? (i := 635) (by decide +kernel), List.mem_of_getElem? (i := 833) (by decide +kernel), List.mem_of_getElem? (i := 834) (by decide +kernel)⟩
theorem lw_p13 : lw_okq (⟨"ActsPaidModel", "keepsMust", "()Z"⟩, 27) := ⟨⟨by decide +kernel, by decide +kernel⟩, List.mem_of_getElem? (i := 635) (by decide +kernel), List.mem_of_getElem? (i := 837) (by decide +kernel), List.mem_of_getElem? (i := 838) (by decide +kernel)⟩
theorem lw_p14 : lw_okq (⟨"ActsPaidModel", "nextRow", "(I)Z"⟩, 27) := ⟨⟨by decide +kernel, by decide +kernel⟩, List.mem_of_getElem? (i := 635) (by decide +kernel), List.mem_of_getElem? (i := 841) (by decide +kernel), List.mem_of_getElem? (i := 842) (by decide +kernel)⟩
theorem lw_p15 : lw_okq (⟨"ActsPaidModel", "change", "(II)V"⟩, 27) := ⟨⟨by decide +kernel, by decide +kernel⟩, List.mem_of_getElem? (i := 635) (by decide +kernel), List.mem_of_getElem? (i := 845) (by decide +kernel), List.mem_of_getElem? (i := 846) (by decide +kernel)⟩
def lw_privs_1 : List (MethodName × Nat) := [(⟨"ActsPaid", "tried", "()LActsPaid$Stage;"⟩, 9), (⟨"ActsPaid", "imageOf", "(I)LActsPaid$Image;"⟩, 9), (⟨"ActsPaidModel", "plain", "()V"⟩, 27), (⟨"ActsPaidModel", "guestFault", "()I"⟩, 27), (⟨"ActsPaidModel", "orderFault", "()I"⟩, 27), (⟨"ActsPaidModel", "isAct", "(I)Z"⟩, 27), (⟨"ActsPaidModel", "comes", "(I)Z"⟩, 27), (⟨"ActsPaidModel", "leavesAt", "(I)I"⟩, 27), (⟨"ActsPaidModel", "faresOf", "(II)I"⟩, 27), (⟨"ActsPaidModel", "allTakings", "()I"⟩, 27), (⟨"ActsPaidModel", "paysOf", "(I)I"⟩, 27), (⟨"ActsPaidModel", "isAhead", "(II)Z"⟩, 27), (⟨"ActsPaidModel", "firstRow", "(I)V"⟩, 27), (⟨"ActsPaidModel", "keepsMust", "()Z"⟩, 27), (⟨"ActsPaidModel", "nextRow", "(I)Z"⟩, 27), (⟨"ActsPaidModel", "change", "(II)V"⟩, 27)]
theorem lw_r1 : ∀ q ∈ lw_privs_1, lw_okq q := List.forall_mem_cons.mpr ⟨lw_p0, List.forall_mem_cons.mpr ⟨lw_p1, List.forall_mem_cons.mpr ⟨lw_p2, List.forall_mem_cons.mpr ⟨lw_p3, List.forall_mem_cons.mpr ⟨lw_p4, List.forall_mem_cons.mpr ⟨lw_p5, List.forall_mem_cons.mpr ⟨lw_p6, List.forall_mem_cons.mpr ⟨lw_p7, List.forall_mem_cons.mpr ⟨lw_p8, List.forall_mem_cons.mpr ⟨lw_p9, List.forall_mem_cons.mpr ⟨lw_p10, List.forall_mem_cons.mpr ⟨lw_p11, List.forall_mem_cons.mpr ⟨lw_p12, List.forall_mem_cons.mpr ⟨lw_p13, List.forall_mem_cons.mpr ⟨lw_p14, List.forall_mem_cons.mpr ⟨lw_p15, fun _ h => absurd h List.not_mem_nil⟩⟩⟩⟩⟩⟩⟩⟩⟩⟩⟩⟩⟩⟩⟩⟩
theorem lw_p16 : lw_okq (⟨"ActsPaidModel", "raise", "(II)V"⟩, 27) := ⟨⟨by decide +kernel, by decide +kernel⟩, List.mem_of_getElem? (i := 635) (by decide +kernel), List.mem_of_getElem? (i := 853) (by decide +kernel), List.mem_of_getElem? (i := 854) (by decide +kernel)⟩
theorem lw_p17 : lw_okq (⟨"ActsPaidModel", "risen", "(I)I"⟩, 27) := ⟨⟨by decide +kernel, by decide +kernel⟩, List.mem_of_getElem? (i := 635) (by decide +kernel), List.mem_of_getElem? (i := 865) (by decide +kernel), List.mem_of_getElem? (i := 866) (by decide +kernel)⟩
theorem lw_p18 : lw_okq (⟨"ActsPaidModel", "keepsFriends", "(I)Z"⟩, 27) := ⟨⟨by decide +kernel, by decide +kernel⟩, List.mem_of_getElem? (i := 635) (by decide +kernel), List.mem_of_getElem? (i := 869) (by decide +kernel), List.mem_of_getElem? (i := 870) (by decide +kernel)⟩
theorem lw_p19 : lw_okq (⟨"ActsPaidModel", "goOver", "(I)V"⟩, 27) := ⟨⟨by decide +kernel, by decide +kernel⟩, List.mem_of_getElem? (i := 635) (by decide +kernel), List.mem_of_getElem? (i := 881) (by decide +kernel), List.mem_of_getElem? (i := 882) (by decide +kernel)⟩
theorem lw_p20 : lw_okq (⟨"ActsPaidModel", "takenBy", "(I)I"⟩, 27) := ⟨⟨by decide +kernel, by decide +kernel⟩, List.mem_of_getElem? (i := 635) (by decide +kernel), List.mem_of_getElem? (i := 890) (by decide +kernel), List.mem_of_getElem? (i := 891) (by decide +kernel)⟩
theorem lw_p21 : lw_okq (⟨"ActsPaidModel", "isSeen", "(I)Z"⟩, 27) := ⟨⟨by decide +kernel, by decide +kernel⟩, List.mem_of_getElem? (i := 635) (by decide +kernel), List.mem_of_getElem? (i := 910) (by decide +kernel), List.mem_of_getElem? (i := 911) (by decide +kernel)⟩
theorem lw_p22 : lw_okq (⟨"ActsPaidModel", "layPays", "()V"⟩, 27) := ⟨⟨by decide +kernel, by decide +kernel⟩, List.mem_of_getElem? (i := 635) (by decide +kernel), List.mem_of_getElem? (i := 919) (by decide +kernel), List.mem_of_getElem? (i := 920) (by decide +kernel)⟩
theorem lw_p23 : lw_okq (⟨"ActsPaidModel", "takenOf", "(I)I"⟩, 27) := ⟨⟨by decide +kernel, by decide +kernel⟩, List.mem_of_getElem? (i := 635) (by decide +kernel), List.mem_of_getElem? (i := 923) (by decide +kernel), List.mem_of_getElem? (i := 924) (by decide +kernel)⟩
def lw_privs_2 : List (MethodName × Nat) := [(⟨"ActsPaidModel", "raise", "(II)V"⟩, 27), (⟨"ActsPaidModel", "risen", "(I)I"⟩, 27), (⟨"ActsPaidModel", "keepsFriends", "(I)Z"⟩, 27), (⟨"ActsPaidModel", "goOver", "(I)V"⟩, 27), (⟨"ActsPaidModel", "takenBy", "(I)I"⟩, 27), (⟨"ActsPaidModel", "isSeen", "(I)Z"⟩, 27), (⟨"ActsPaidModel", "layPays", "()V"⟩, 27), (⟨"ActsPaidModel", "takenOf", "(I)I"⟩, 27)]
theorem lw_r2 : ∀ q ∈ lw_privs_2, lw_okq q := List.forall_mem_cons.mpr ⟨lw_p16, List.forall_mem_cons.mpr ⟨lw_p17, List.forall_mem_cons.mpr ⟨lw_p18, List.forall_mem_cons.mpr ⟨lw_p19, List.forall_mem_cons.mpr ⟨lw_p20, List.forall_mem_cons.mpr ⟨lw_p21, List.forall_mem_cons.mpr ⟨lw_p22, List.forall_mem_cons.mpr ⟨lw_p23, fun _ h => absurd h List.not_mem_nil⟩⟩⟩⟩⟩⟩⟩⟩
def lw_privs : List (MethodName × Nat) := lw_privs_1 ++ (lw_privs_2)
def lw_tbl : List Cond := k2_sels lw_privs ++ tables_1
theorem lw_privs_ok : ∀ q ∈ lw_privs, lw_okq q := by
  show ∀ q ∈ lw_privs_1 ++ (lw_privs_2), lw_okq q
  exact List.forall_mem_append.mpr ⟨lw_r1, lw_r2⟩

def RX0 : String := "ActsPaid$Chances"
def TX0 : u_T := fun k => match k with
  | _ => ("ActsPaid$Chances", "payments", "[I", true)
def tyX0 : Nat → FieldType := fun k => match k with
  | _ => .array .int
abbrev wsX00 : List Cond := u_ws RX0 TX0 1
theorem nmX0 : ∀ a, a < 1 → ∀ b, b < 1 → a ≠ b → (TX0 a).2.1 ≠ (TX0 b).2.1 := by decide +kernel
theorem tyX0_ok : ∀ k, k < 1 → parseFieldDescriptor (TX0 k).2.2.1 = some (tyX0 k) := by decide +kernel
def RX1 : String := "ActsPaid$Houses"
def TX1 : u_T := fun k => match k with
  | 0 => ("ActsPaid$Houses", "goesOver", "I", false)
  | 1 => ("ActsPaid$Houses", "goesHome", "I", false)
  | 2 => ("ActsPaid$Houses", "takenHere", "I", false)
  | 3 => ("ActsPaid$Houses", "takenThere", "I", false)
  | 4 => ("ActsPaid$Houses", "here", "[I", true)
  | _ => ("ActsPaid$Houses", "there", "[I", true)
def tyX1 : Nat → FieldType := fun k => match k with
  | 0 => .int
  | 1 => .int
  | 2 => .int
  | 3 => .int
  | 4 => .array .int
  | _ => .array .int
abbrev wsX10 : List Cond := u_ws RX1 TX1 6
theorem nmX1 : ∀ a, a < 6 → ∀ b, b < 6 → a ≠ b → (TX1 a).2.1 ≠ (TX1 b).2.1 := by decide +kernel
theorem tyX1_ok : ∀ k, k < 6 → parseFieldDescriptor (TX1 k).2.2.1 = some (tyX1 k) := by decide +kernel
def RX2 : String := "ActsPaid$Image"
def TX2 : u_T := fun k => match k with
  | 0 => ("ActsPaid$Image", "kept", "LActsPaid$Stage;", true)
  | _ => ("ActsPaid$Image", "taken", "Z", false)
def tyX2 : Nat → FieldType := fun k => match k with
  | 0 => .object "ActsPaid$Stage"
  | _ => .boolean
abbrev wsX20 : List Cond := u_ws RX2 TX2 2
theorem nmX2 : ∀ a, a < 2 → ∀ b, b < 2 → a ≠ b → (TX2 a).2.1 ≠ (TX2 b).2.1 := by decide +kernel
theorem tyX2_ok : ∀ k, k < 2 → parseFieldDescriptor (TX2 k).2.2.1 = some (tyX2 k) := by decide +kernel
def RX3 : String := "ActsPaid$Pad"
def TX3 : u_T := fun k => match k with
  | 0 => ("ActsPaid$Pad", "signs", "[I", true)
  | _ => ("ActsPaid$Pad", "count", "I", false)
def tyX3 : Nat → FieldType := fun k => match k with
  | 0 => .array .int
  | _ => .int
abbrev wsX30 : List Cond := u_ws RX3 TX3 2
theorem nmX3 : ∀ a, a < 2 → ∀ b, b < 2 → a ≠ b → (TX3 a).2.1 ≠ (TX3 b).2.1 := by decide +kernel
theorem tyX3_ok : ∀ k, k < 2 → parseFieldDescriptor (TX3 k).2.2.1 = some (tyX3 k) := by decide +kernel
def RX4 : String := "ActsPaid$Programme"
def TX4 : u_T := fun k => match k with
  | _ => ("ActsPaid$Programme", "best", "[I", true)
def tyX4 : Nat → FieldType := fun k => match k with
  | _ => .array .int
abbrev wsX40 : List Cond := u_ws RX4 TX4 1
theorem nmX4 : ∀ a, a < 1 → ∀ b, b < 1 → a ≠ b → (TX4 a).2.1 ≠ (TX4 b).2.1 := by decide +kernel
theorem tyX4_ok : ∀ k, k < 1 → parseFieldDescriptor (TX4 k).2.2.1 = some (tyX4 k) := by decide +kernel
def RX5 : String := "ActsPaid$Rows"
def TX5 : u_T := fun k => match k with
  | _ => ("", "", "", false)
def tyX5 : Nat → FieldType := fun k => match k with
  | _ => .int
abbrev wsX50 : List Cond := u_ws RX5 TX5 0
theorem nmX5 : ∀ a, a < 0 → ∀ b, b < 0 → a ≠ b → (TX5 a).2.1 ≠ (TX5 b).2.1 := by decide +kernel
theorem tyX5_ok : ∀ k, k < 0 → parseFieldDescriptor (TX5 k).2.2.1 = some (tyX5 k) := by decide +kernel
def RX6 : String := "ActsPaid$Seats"
def TX6 : u_T := fun k => match k with
  | 0 => ("ActsPaid$Seats", "fewest", "[I", true)
  | _ => ("ActsPaid$Seats", "later", "[I", true)
def tyX6 : Nat → FieldType := fun k => match k with
  | 0 => .array .int
  | _ => .array .int
abbrev wsX60 : List Cond := u_ws RX6 TX6 2
theorem nmX6 : ∀ a, a < 2 → ∀ b, b < 2 → a ≠ b → (TX6 a).2.1 ≠ (TX6 b).2.1 := by decide +kernel
theorem tyX6_ok : ∀ k, k < 2 → parseFieldDescriptor (TX6 k).2.2.1 = some (tyX6 k) := by decide +kernel
def RX7 : String := "ActsPaid$Sights"
def TX7 : u_T := fun k => match k with
  | 0 => ("ActsPaid$Sights", "count", "I", false)
  | 1 => ("ActsPaid$Sights", "guests", "[I", true)
  | 2 => ("ActsPaid$Sights", "behinds", "[I", true)
  | _ => ("ActsPaid$Sights", "bases", "[I", true)
def tyX7 : Nat → FieldType := fun k => match k with
  | 0 => .int
  | 1 => .array .int
  | 2 => .array .int
  | _ => .array .int
abbrev wsX70 : List Cond := u_ws RX7 TX7 4
theorem nmX7 : ∀ a, a < 4 → ∀ b, b < 4 → a ≠ b → (TX7 a).2.1 ≠ (TX7 b).2.1 := by decide +kernel
theorem tyX7_ok : ∀ k, k < 4 → parseFieldDescriptor (TX7 k).2.2.1 = some (tyX7 k) := by decide +kernel
def RX8 : String := "ActsPaid$Stage"
def TX8 : u_T := fun k => match k with
  | 0 => ("ActsPaid$Stage", "acts", "I", false)
  | 1 => ("ActsPaid$Stage", "base", "I", false)
  | 2 => ("ActsPaid$Stage", "step", "I", false)
  | 3 => ("ActsPaid$Stage", "law", "I", false)
  | 4 => ("ActsPaid$Stage", "baseThere", "I", false)
  | 5 => ("ActsPaid$Stage", "present", "I", false)
  | 6 => ("ActsPaid$Stage", "order", "[I", true)
  | 7 => ("ActsPaid$Stage", "worths", "[I", true)
  | 8 => ("ActsPaid$Stage", "worthsThere", "[I", true)
  | 9 => ("ActsPaid$Stage", "after", "[I", true)
  | 10 => ("ActsPaid$Stage", "friendsOf", "[I", true)
  | _ => ("ActsPaid$Stage", "sights", "LActsPaid$Sights;", true)
def tyX8 : Nat → FieldType := fun k => match k with
  | 0 => .int
  | 1 => .int
  | 2 => .int
  | 3 => .int
  | 4 => .int
  | 5 => .int
  | 6 => .array .int
  | 7 => .array .int
  | 8 => .array .int
  | 9 => .array .int
  | 10 => .array .int
  | _ => .object "ActsPaid$Sights"
abbrev wsX80 : List Cond := u_ws RX8 TX8 12
theorem nmX8 : ∀ a, a < 12 → ∀ b, b < 12 → a ≠ b → (TX8 a).2.1 ≠ (TX8 b).2.1 := by decide +kernel
theorem tyX8_ok : ∀ k, k < 12 → parseFieldDescriptor (TX8 k).2.2.1 = some (tyX8 k) := by decide +kernel
def RX9 : String := "ActsPaid"
def TX9 : u_T := fun k => match k with
  | 0 => ("ActsPaid", "pad", "LActsPaid$Pad;", true)
  | 1 => ("ActsPaid", "stage", "LActsPaid$Stage;", true)
  | 2 => ("ActsPaid", "trial", "LActsPaid$Stage;", true)
  | 3 => ("ActsPaid", "firstImage", "LActsPaid$Image;", true)
  | 4 => ("ActsPaid", "secondImage", "LActsPaid$Image;", true)
  | 5 => ("ActsPaid", "programme", "LActsPaid$Programme;", true)
  | 6 => ("ActsPaid", "seats", "LActsPaid$Seats;", true)
  | 7 => ("ActsPaid", "houses", "LActsPaid$Houses;", true)
  | _ => ("ActsPaid", "chances", "LActsPaid$Chances;", true)
def tyX9 : Nat → FieldType := fun k => match k with
  | 0 => .object "ActsPaid$Pad"
  | 1 => .object "ActsPaid$Stage"
  | 2 => .object "ActsPaid$Stage"
  | 3 => .object "ActsPaid$Image"
  | 4 => .object "ActsPaid$Image"
  | 5 => .object "ActsPaid$Programme"
  | 6 => .object "ActsPaid$Seats"
  | 7 => .object "ActsPaid$Houses"
  | _ => .object "ActsPaid$Chances"
abbrev wsX90 : List Cond := u_ws RX9 TX9 9
theorem nmX9 : ∀ a, a < 9 → ∀ b, b < 9 → a ≠ b → (TX9 a).2.1 ≠ (TX9 b).2.1 := by decide +kernel
theorem tyX9_ok : ∀ k, k < 9 → parseFieldDescriptor (TX9 k).2.2.1 = some (tyX9 k) := by decide +kernel
def RX10 : String := "ActsPaidModel"
def TX10 : u_T := fun k => match k with
  | 0 => ("ActsPaidModel", "acts", "I", false)
  | 1 => ("ActsPaidModel", "come", "I", false)
  | 2 => ("ActsPaidModel", "base", "I", false)
  | 3 => ("ActsPaidModel", "step", "I", false)
  | 4 => ("ActsPaidModel", "law", "I", false)
  | 5 => ("ActsPaidModel", "there", "I", false)
  | 6 => ("ActsPaidModel", "worth", "[I", true)
  | 7 => ("ActsPaidModel", "order", "[I", true)
  | 8 => ("ActsPaidModel", "behind", "[I", true)
  | 9 => ("ActsPaidModel", "others", "[I", true)
  | 10 => ("ActsPaidModel", "beside", "[I", true)
  | 11 => ("ActsPaidModel", "sights", "I", false)
  | 12 => ("ActsPaidModel", "sight", "[I", true)
  | 13 => ("ActsPaidModel", "signs", "I", false)
  | 14 => ("ActsPaidModel", "pad", "[I", true)
  | 15 => ("ActsPaidModel", "own", "I", false)
  | 16 => ("ActsPaidModel", "row", "[I", true)
  | 17 => ("ActsPaidModel", "kept", "[I", true)
  | 18 => ("ActsPaidModel", "best", "[I", true)
  | 19 => ("ActsPaidModel", "who", "[I", true)
  | 20 => ("ActsPaidModel", "end", "[I", true)
  | 21 => ("ActsPaidModel", "goesAt", "I", false)
  | 22 => ("ActsPaidModel", "endsAt", "I", false)
  | 23 => ("ActsPaidModel", "taken", "[I", true)
  | 24 => ("ActsPaidModel", "pays", "[I", true)
  | 25 => ("ActsPaidModel", "image", "[I", true)
  | _ => ("ActsPaidModel", "isKept", "[Z", true)
def tyX10 : Nat → FieldType := fun k => match k with
  | 0 => .int
  | 1 => .int
  | 2 => .int
  | 3 => .int
  | 4 => .int
  | 5 => .int
  | 6 => .array .int
  | 7 => .array .int
  | 8 => .array .int
  | 9 => .array .int
  | 10 => .array .int
  | 11 => .int
  | 12 => .array .int
  | 13 => .int
  | 14 => .array .int
  | 15 => .int
  | 16 => .array .int
  | 17 => .array .int
  | 18 => .array .int
  | 19 => .array .int
  | 20 => .array .int
  | 21 => .int
  | 22 => .int
  | 23 => .array .int
  | 24 => .array .int
  | 25 => .array .int
  | _ => .array .boolean
abbrev wsX100 : List Cond := u_ws RX10 TX10 27
theorem nmX10 : ∀ a, a < 27 → ∀ b, b < 27 → a ≠ b → (TX10 a).2.1 ≠ (TX10 b).2.1 := by decide +kernel
theorem tyX10_ok : ∀ k, k < 27 → parseFieldDescriptor (TX10 k).2.2.1 = some (tyX10 k) := by decide +kernel
def RL : String := "ActsPaidLaw"
abbrev vwCl : List vw_C := [(RX0, TX0, 1), (RX1, TX1, 6), (RX2, TX2, 2), (RX3, TX3, 2), (RX4, TX4, 1), (RX6, TX6, 2), (RX7, TX7, 4), (RX8, TX8, 12), (RX9, TX9, 9), (RX10, TX10, 27)]
end
section
/-! ===== a small machine over the cells of this system: values, layout, memory ===== -/
abbrev MV : Type := Int32 ⊕ (Int64 ⊕ ((Nat × Nat × Nat) ⊕ Unit))
abbrev mI (x : Int32) : MV := .inl x
abbrev mJ (x : Int64) : MV := .inr (.inl x)
abbrev mR (k t c : Nat) : MV := .inr (.inr (.inl (k, t, c)))
abbrev mO (t c : Nat) : MV := mR 0 t c
abbrev mA (n c : Nat) : MV := mR 1 n c
abbrev mZ (n c : Nat) : MV := mR 2 n c
abbrev mQ : MV := mR 3 0 0
abbrev mU : MV := .inr (.inr (.inr ()))
abbrev Mm : Type := Nat → Nat → Int32
def mS (μ : Mm) (c k : Nat) (x : Int32) : Mm := fun c' k' => if c' = c ∧ k' = k then x else μ c' k'
abbrev Sp : Type := List MV → Mm → (MV → Mm → Prop) → Prop
/-- the cells: (class, 0) an object, (20, n) a row of n ints, (21, n) of n booleans -/
def lyS : List (Nat × Nat) := [(7, 0), (20, 6), (20, 48), (20, 6), (20, 6), (20, 8), (6, 0), (20, 6), (20, 6), (20, 6)]
def lyL : List (Nat × Nat) := [(8, 0), (3, 0), (20, 48)] ++ lyS ++ lyS ++ [(2, 0)] ++ lyS ++ [(2, 0)] ++ lyS ++ [(4, 0), (20, 6), (5, 0), (20, 2048), (20, 8), (1, 0), (20, 100), (20, 100), (0, 0), (20, 8)] ++ [(9, 0), (20, 48), (20, 6), (20, 6), (20, 6), (20, 8), (20, 18), (20, 48), (20, 8), (20, 8), (20, 8), (20, 8), (20, 8), (20, 200), (20, 8), (20, 200), (21, 2)]
/-- the fields of a class: (0, ..) int, (1, ..) boolean, (2, off, t) an object of class t at the cell's number and off, (3, off, n) a row of ints, (4, off, n) of booleans -/
def foL : List (List (Nat × Nat × Nat)) := [
  [(3, 1, 8)],
  [(0, 0, 0), (0, 0, 0), (0, 0, 0), (0, 0, 0), (3, 1, 100), (3, 2, 100)],
  [(2, 1, 7), (1, 0, 0)],
  [(3, 1, 48), (0, 0, 0)],
  [(3, 1, 6)],
  [(3, 1, 2048), (3, 2, 8)],
  [(0, 0, 0), (3, 1, 6), (3, 2, 6), (3, 3, 6)],
  [(0, 0, 0), (0, 0, 0), (0, 0, 0), (0, 0, 0), (0, 0, 0), (0, 0, 0), (3, 1, 6), (3, 2, 48), (3, 3, 6), (3, 4, 6), (3, 5, 8), (2, 6, 6)],
  [(2, 1, 3), (2, 3, 7), (2, 13, 7), (2, 23, 2), (2, 34, 2), (2, 45, 4), (2, 47, 5), (2, 50, 1), (2, 53, 0)],
  [(0, 0, 0), (0, 0, 0), (0, 0, 0), (0, 0, 0), (0, 0, 0), (0, 0, 0), (3, 1, 48), (3, 2, 6), (3, 3, 6), (3, 4, 6), (3, 5, 8), (0, 0, 0), (3, 6, 18), (0, 0, 0), (3, 7, 48), (0, 0, 0), (3, 8, 8), (3, 9, 8), (3, 10, 8), (3, 11, 8), (3, 12, 8), (0, 0, 0), (0, 0, 0), (3, 13, 200), (3, 14, 8), (3, 15, 200), (4, 16, 2)]]
def fo (t k : Nat) : Nat × Nat × Nat := (foL.getD t []).getD k (9, 0, 0)
def mF (μ : Mm) (c k : Nat) (f : Nat × Nat × Nat) : MV := match f with
  | (0, _, _) => mI (μ c k)
  | (1, _, _) => mI (μ c k)
  | (2, off, t) => mO t (c + off)
  | (3, off, n) => mA n (c + off)
  | (_, off, n) => mZ n (c + off)
def tv (ad : Nat → Nat) (b : Nat) (v : MV) : Value := match v with
  | .inl x => .int x
  | .inr (.inl x) => .long x
  | .inr (.inr (.inl (k, _, c))) => if k = 3 then .ref b else .ref (ad c)
  | .inr (.inr (.inr _)) => .null
def wtv (sc : Bool) (v : MV) : Prop := match v with
  | .inl _ => True
  | .inr (.inl _) => True
  | .inr (.inr (.inl (k, t, c))) => if k = 3 then sc = true else if k = 0 then lyL[c]? = some (t, 0) ∧ t < 10 else if k = 1 then lyL[c]? = some (20, t) else k = 2 ∧ lyL[c]? = some (21, t)
  | .inr (.inr (.inr _)) => True
def cE (ad : Nat → Nat) (cI cB : Nat) (μ : Mm) (c : Nat) (q : Nat × Nat) : va_E :=
  if q.1 = 20 then .inl (cI, q.2, .inl (μ c)) else if q.1 = 21 then .inl (cB, q.2, .inl (μ c)) else .inr (q.1, (foL.getD q.1 []).mapIdx (fun k f => tv ad 0 (mF μ c k f)))
def wl (ad : Nat → Nat) (cI cB : Nat) (μ : Mm) : va_W := lyL.mapIdx (fun c q => (ad c, cE ad cI cB μ c q))
abbrev ty2 (cI cB : Nat) : List (ClassId × FieldType) := [(cI, .int), (cB, .boolean)]
def vI (v : MV) : Int32 := match v with
  | .inl x => x
  | _ => 0
def vJ (v : MV) : Int64 := match v with
  | .inr (.inl x) => x
  | _ => 0
def vC (v : MV) : Nat := match v with
  | .inr (.inr (.inl q)) => q.2.2
  | _ => 0
def zb (x : Int32) : Prop := x = 0 ∨ x = 1
def vi (i : Int32) (n : Nat) : Prop := 0 ≤ i.toInt ∧ i.toInt < n
def ctS : List MV → Nat
  | [] => 0
  | .inr (.inl _) :: S => 2 + ctS S
  | _ :: S => 1 + ctS S
/-- an instruction: what it is, a number, a long, three numbers (an index, a place or target ..), a table of targets -/
abbrev Ao : Type := Nat × Int32 × Int64 × Nat × Nat × Nat × List (Int32 × Nat)
/-- a call: how many values it takes, what it answers (0 nothing, 1 int, 2 long, 3 an object of the class behind), the receiver's class and 1 (0: static), what it does -/
abbrev Ce : Type := Nat × Nat × Nat × Nat × Sp
/-- a method: code, calls, what it answers (4: a boolean), of which class, has it longs; a script -/
abbrev Ev : Type := List (Nat × Ao) × List (Nat × Ce) × Nat × Nat × Bool × Nat × (Nat → Int32)
def lk {α : Type} : List (Nat × α) → Nat → Option α
  | [], _ => none
  | q :: r, k => bif Nat.beq q.1 k then some q.2 else lk r k
def clr (L : List MV) (a : Nat) : List MV := match a with
  | 0 => L
  | a' + 1 => match L[a']? with
    | some (.inr (.inl _)) => L.set a' mU
    | _ => L
def sto (lg : Bool) (L : List MV) (a : Nat) (v : MV) : List MV := bif lg then (clr L a).set a v else L.set a v
def swt (J : List (Int32 × Nat)) (d : Nat) (x : Int32) (P : Nat → Prop) : Prop := match J with
  | [] => P d
  | q :: r => if x = q.1 then P q.2 else swt r d x P
def rck (rc : Nat) (As : List MV) : Bool := match rc with
  | 0 => true
  | t + 1 => match As with
    | .inr (.inr (.inl (0, t', _))) :: _ => Nat.beq t' t
    | _ => false
def nq : List MV → Bool
  | [] => true
  | .inr (.inr (.inl (3, _, _))) :: _ => false
  | _ :: S => nq S
/-- behind a call: its answer on the stack -/
def knd (kind rt : Nat) (v : MV) (S : List MV) (k : List MV → Prop) : Prop := match kind with
  | 0 => k S
  | 1 => k (mI (vI v) :: S)
  | 2 => k (mJ (vJ v) :: S)
  | _ => k (mO rt (vC v) :: S)
def cll (ce : Option Ce) (S : List MV) (μ : Mm) (k : List MV → Mm → Prop) : Prop := match ce with
  | some (n, kind, rt, rc, sp) => bif Nat.ble n S.length && (Nat.ble (ctS (S.drop n)) 8 && (rck rc (S.take n).reverse && nq (S.take n))) then sp (S.take n).reverse μ (fun v μ1 => knd kind rt v (S.drop n) (fun S' => k S' μ1)) else False
  | none => False
/-! what is on the stack, or in a local: taken apart -/
def ldI (o : Option MV) (k : Int32 → Prop) : Prop := match o with
  | some (.inl x) => k x
  | _ => False
theorem ldI_ex {o : Option MV} {k : Int32 → Prop} (h : ldI o k) : ∃ x, o = some (.inl x) ∧ k x := by
  unfold ldI at h
  split at h
  · exact ⟨_, rfl, h⟩
  · exact h.elim
theorem ldI_mono {o : Option MV} {k k' : Int32 → Prop} (h : ∀ x, k x → k' x) : ldI o k → ldI o k' := by
  unfold ldI
  split
  · exact h _
  · exact fun g => g
def ldJ (o : Option MV) (k : Int64 → Prop) : Prop := match o with
  | some (.inr (.inl x)) => k x
  | _ => False
theorem ldJ_ex {o : Option MV} {k : Int64 → Prop} (h : ldJ o k) : ∃ x, o = some (.inr (.inl x)) ∧ k x := by
  unfold ldJ at h
  split at h
  · exact ⟨_, rfl, h⟩
  · exact h.elim
theorem ldJ_mono {o : Option MV} {k k' : Int64 → Prop} (h : ∀ x, k x → k' x) : ldJ o k → ldJ o k' := by
  unfold ldJ
  split
  · exact h _
  · exact fun g => g
def ldR (o : Option MV) (k : (Nat × Nat × Nat) → Prop) : Prop := match o with
  | some (.inr (.inr (.inl r))) => k r
  | _ => False
theorem ldR_ex {o : Option MV} {k : (Nat × Nat × Nat) → Prop} (h : ldR o k) : ∃ r, o = some (.inr (.inr (.inl r))) ∧ k r := by
  unfold ldR at h
  split at h
  · exact ⟨_, rfl, h⟩
  · exact h.elim
theorem ldR_mono {o : Option MV} {k k' : (Nat × Nat × Nat) → Prop} (h : ∀ r, k r → k' r) : ldR o k → ldR o k' := by
  unfold ldR
  split
  · exact h _
  · exact fun g => g
def pI (S : List MV) (k : Int32 → List MV → Prop) : Prop := match S with
  | .inl x :: S => k x S
  | _ => False
theorem pI_ex {S : List MV} {k : Int32 → List MV → Prop} (h : pI S k) : ∃ x S', S = .inl x :: S' ∧ k x S' := by
  unfold pI at h
  split at h
  · exact ⟨_, _, rfl, h⟩
  · exact h.elim
theorem pI_mono {S : List MV} {k k' : Int32 → List MV → Prop} (h : ∀ x S, k x S → k' x S) : pI S k → pI S k' := by
  unfold pI
  split
  · exact h _ _
  · exact fun g => g
def pJ (S : List MV) (k : Int64 → List MV → Prop) : Prop := match S with
  | .inr (.inl x) :: S => k x S
  | _ => False
theorem pJ_ex {S : List MV} {k : Int64 → List MV → Prop} (h : pJ S k) : ∃ x S', S = .inr (.inl x) :: S' ∧ k x S' := by
  unfold pJ at h
  split at h
  · exact ⟨_, _, rfl, h⟩
  · exact h.elim
theorem pJ_mono {S : List MV} {k k' : Int64 → List MV → Prop} (h : ∀ x S, k x S → k' x S) : pJ S k → pJ S k' := by
  unfold pJ
  split
  · exact h _ _
  · exact fun g => g
def pR (S : List MV) (k : (Nat × Nat × Nat) → List MV → Prop) : Prop := match S with
  | .inr (.inr (.inl r)) :: S => k r S
  | _ => False
theorem pR_ex {S : List MV} {k : (Nat × Nat × Nat) → List MV → Prop} (h : pR S k) : ∃ r S', S = .inr (.inr (.inl r)) :: S' ∧ k r S' := by
  unfold pR at h
  split at h
  · exact ⟨_, _, rfl, h⟩
  · exact h.elim
theorem pR_mono {S : List MV} {k k' : (Nat × Nat × Nat) → List MV → Prop} (h : ∀ r S, k r S → k' r S) : pR S k → pR S k' := by
  unfold pR
  split
  · exact h _ _
  · exact fun g => g
def pII (S : List MV) (k : Int32 → Int32 → List MV → Prop) : Prop := match S with
  | .inl y :: .inl x :: S => k y x S
  | _ => False
theorem pII_ex {S : List MV} {k : Int32 → Int32 → List MV → Prop} (h : pII S k) : ∃ y x S', S = .inl y :: .inl x :: S' ∧ k y x S' := by
  unfold pII at h
  split at h
  · exact ⟨_, _, _, rfl, h⟩
  · exact h.elim
theorem pII_mono {S : List MV} {k k' : Int32 → Int32 → List MV → Prop} (h : ∀ y x S, k y x S → k' y x S) : pII S k → pII S k' := by
  unfold pII
  split
  · exact h _ _ _
  · exact fun g => g
def pJJ (S : List MV) (k : Int64 → Int64 → List MV → Prop) : Prop := match S with
  | .inr (.inl y) :: .inr (.inl x) :: S => k y x S
  | _ => False
theorem pJJ_ex {S : List MV} {k : Int64 → Int64 → List MV → Prop} (h : pJJ S k) : ∃ y x S', S = .inr (.inl y) :: .inr (.inl x) :: S' ∧ k y x S' := by
  unfold pJJ at h
  split at h
  · exact ⟨_, _, _, rfl, h⟩
  · exact h.elim
theorem pJJ_mono {S : List MV} {k k' : Int64 → Int64 → List MV → Prop} (h : ∀ y x S, k y x S → k' y x S) : pJJ S k → pJJ S k' := by
  unfold pJJ
  split
  · exact h _ _ _
  · exact fun g => g
def pIR (S : List MV) (k : Int32 → (Nat × Nat × Nat) → List MV → Prop) : Prop := match S with
  | .inl x :: .inr (.inr (.inl r)) :: S => k x r S
  | _ => False
theorem pIR_ex {S : List MV} {k : Int32 → (Nat × Nat × Nat) → List MV → Prop} (h : pIR S k) : ∃ x r S', S = .inl x :: .inr (.inr (.inl r)) :: S' ∧ k x r S' := by
  unfold pIR at h
  split at h
  · exact ⟨_, _, _, rfl, h⟩
  · exact h.elim
theorem pIR_mono {S : List MV} {k k' : Int32 → (Nat × Nat × Nat) → List MV → Prop} (h : ∀ x r S, k x r S → k' x r S) : pIR S k → pIR S k' := by
  unfold pIR
  split
  · exact h _ _ _
  · exact fun g => g
def pO (S : List MV) (k : Nat → Nat → List MV → Prop) : Prop := match S with
  | .inr (.inr (.inl (0, t, c))) :: S => k t c S
  | _ => False
theorem pO_ex {S : List MV} {k : Nat → Nat → List MV → Prop} (h : pO S k) : ∃ t c S', S = .inr (.inr (.inl (0, t, c))) :: S' ∧ k t c S' := by
  unfold pO at h
  split at h
  · exact ⟨_, _, _, rfl, h⟩
  · exact h.elim
theorem pO_mono {S : List MV} {k k' : Nat → Nat → List MV → Prop} (h : ∀ t c S, k t c S → k' t c S) : pO S k → pO S k' := by
  unfold pO
  split
  · exact h _ _ _
  · exact fun g => g
def pIO (S : List MV) (k : Int32 → Nat → Nat → List MV → Prop) : Prop := match S with
  | .inl x :: .inr (.inr (.inl (0, t, c))) :: S => k x t c S
  | _ => False
theorem pIO_ex {S : List MV} {k : Int32 → Nat → Nat → List MV → Prop} (h : pIO S k) : ∃ x t c S', S = .inl x :: .inr (.inr (.inl (0, t, c))) :: S' ∧ k x t c S' := by
  unfold pIO at h
  split at h
  · exact ⟨_, _, _, _, rfl, h⟩
  · exact h.elim
theorem pIO_mono {S : List MV} {k k' : Int32 → Nat → Nat → List MV → Prop} (h : ∀ x t c S, k x t c S → k' x t c S) : pIO S k → pIO S k' := by
  unfold pIO
  split
  · exact h _ _ _ _
  · exact fun g => g
def pIIA (S : List MV) (k : Int32 → Int32 → Nat → Nat → List MV → Prop) : Prop := match S with
  | .inl x :: .inl i :: .inr (.inr (.inl (1, n, c))) :: S => k x i n c S
  | _ => False
theorem pIIA_ex {S : List MV} {k : Int32 → Int32 → Nat → Nat → List MV → Prop} (h : pIIA S k) : ∃ x i n c S', S = .inl x :: .inl i :: .inr (.inr (.inl (1, n, c))) :: S' ∧ k x i n c S' := by
  unfold pIIA at h
  split at h
  · exact ⟨_, _, _, _, _, rfl, h⟩
  · exact h.elim
theorem pIIA_mono {S : List MV} {k k' : Int32 → Int32 → Nat → Nat → List MV → Prop} (h : ∀ x i n c S, k x i n c S → k' x i n c S) : pIIA S k → pIIA S k' := by
  unfold pIIA
  split
  · exact h _ _ _ _ _
  · exact fun g => g
def pIZ (S : List MV) (k : Int32 → Nat → Nat → List MV → Prop) : Prop := match S with
  | .inl i :: .inr (.inr (.inl (2, n, c))) :: S => k i n c S
  | _ => False
theorem pIZ_ex {S : List MV} {k : Int32 → Nat → Nat → List MV → Prop} (h : pIZ S k) : ∃ i n c S', S = .inl i :: .inr (.inr (.inl (2, n, c))) :: S' ∧ k i n c S' := by
  unfold pIZ at h
  split at h
  · exact ⟨_, _, _, _, rfl, h⟩
  · exact h.elim
theorem pIZ_mono {S : List MV} {k k' : Int32 → Nat → Nat → List MV → Prop} (h : ∀ i n c S, k i n c S → k' i n c S) : pIZ S k → pIZ S k' := by
  unfold pIZ
  split
  · exact h _ _ _ _
  · exact fun g => g
def pIIZ (S : List MV) (k : Int32 → Int32 → Nat → Nat → List MV → Prop) : Prop := match S with
  | .inl x :: .inl i :: .inr (.inr (.inl (2, n, c))) :: S => k x i n c S
  | _ => False
theorem pIIZ_ex {S : List MV} {k : Int32 → Int32 → Nat → Nat → List MV → Prop} (h : pIIZ S k) : ∃ x i n c S', S = .inl x :: .inl i :: .inr (.inr (.inl (2, n, c))) :: S' ∧ k x i n c S' := by
  unfold pIIZ at h
  split at h
  · exact ⟨_, _, _, _, _, rfl, h⟩
  · exact h.elim
theorem pIIZ_mono {S : List MV} {k k' : Int32 → Int32 → Nat → Nat → List MV → Prop} (h : ∀ x i n c S, k x i n c S → k' x i n c S) : pIIZ S k → pIIZ S k' := by
  unfold pIIZ
  split
  · exact h _ _ _ _ _
  · exact fun g => g
def pV (S : List MV) (k : MV → List MV → Prop) : Prop := match S with
  | .inl x :: S => k (.inl x) S
  | .inr (.inr (.inl r)) :: S => k (.inr (.inr (.inl r))) S
  | _ => False
theorem pV_ex {S : List MV} {k : MV → List MV → Prop} (h : pV S k) : ∃ v S', S = v :: S' ∧ (∀ x, v ≠ mJ x) ∧ k v S' := by
  unfold pV at h
  split at h
  · exact ⟨_, _, rfl, fun x q => (by cases q), h⟩
  · exact ⟨_, _, rfl, fun x q => (by cases q), h⟩
  · exact h.elim
theorem pV_mono {S : List MV} {k k' : MV → List MV → Prop} (h : ∀ v S, k v S → k' v S) : pV S k → pV S k' := by
  unfold pV
  split
  · exact h _ _
  · exact h _ _
  · exact fun g => g
def pIA (S : List MV) (k : Int32 → Nat → Nat → List MV → Prop) (q : Int32 → List MV → Prop) : Prop := match S with
  | .inl i :: .inr (.inr (.inl (1, n, c))) :: S => k i n c S
  | .inl i :: .inr (.inr (.inl (3, _, _))) :: S => q i S
  | _ => False
theorem pIA_ex {S : List MV} {k : Int32 → Nat → Nat → List MV → Prop} {q : Int32 → List MV → Prop} (h : pIA S k q) : (∃ i n c S', S = .inl i :: .inr (.inr (.inl (1, n, c))) :: S' ∧ k i n c S') ∨ ∃ i z1 z2 S', S = .inl i :: .inr (.inr (.inl (3, z1, z2))) :: S' ∧ q i S' := by
  unfold pIA at h
  split at h
  · exact Or.inl ⟨_, _, _, _, rfl, h⟩
  · exact Or.inr ⟨_, _, _, _, rfl, h⟩
  · exact h.elim
theorem pIA_mono {S : List MV} {k k' : Int32 → Nat → Nat → List MV → Prop} {q q' : Int32 → List MV → Prop} (h : ∀ i n c S, k i n c S → k' i n c S) (hq : ∀ i S, q i S → q' i S) : pIA S k q → pIA S k' q' := by
  unfold pIA
  split
  · exact h _ _ _ _
  · exact hq _ _
  · exact fun g => g
def pA (S : List MV) (k : Nat → Nat → List MV → Prop) (q : List MV → Prop) : Prop := match S with
  | .inr (.inr (.inl (1, n, c))) :: S => k n c S
  | .inr (.inr (.inl (3, _, _))) :: S => q S
  | _ => False
theorem pA_ex {S : List MV} {k : Nat → Nat → List MV → Prop} {q : List MV → Prop} (h : pA S k q) : (∃ n c S', S = .inr (.inr (.inl (1, n, c))) :: S' ∧ k n c S') ∨ ∃  z1 z2 S', S = .inr (.inr (.inl (3, z1, z2))) :: S' ∧ q S' := by
  unfold pA at h
  split at h
  · exact Or.inl ⟨_, _, _, rfl, h⟩
  · exact Or.inr ⟨_, _, _, rfl, h⟩
  · exact h.elim
theorem pA_mono {S : List MV} {k k' : Nat → Nat → List MV → Prop} {q q' : List MV → Prop} (h : ∀ n c S, k n c S → k' n c S) (hq : ∀ S, q S → q' S) : pA S k q → pA S k' q' := by
  unfold pA
  split
  · exact h _ _ _
  · exact hq _
  · exact fun g => g
def rI (S : List MV) (rk : Nat) (k kz : Int32 → Prop) : Prop := match S with
  | [.inl x] => bif Nat.beq rk 1 then k x else bif Nat.beq rk 4 then kz x else False
  | _ => False
theorem rI_ex {S : List MV} {rk : Nat} {k kz : Int32 → Prop} (h : rI S rk k kz) : ∃ x, S = [mI x] ∧ ((rk = 1 ∧ k x) ∨ (rk = 4 ∧ kz x)) := by
  unfold rI at h
  split at h
  · rename_i x
    refine ⟨x, rfl, ?_⟩
    cases h1 : Nat.beq rk 1 with
    | true => rw [h1] at h; exact Or.inl ⟨Nat.eq_of_beq_eq_true h1, h⟩
    | false =>
      rw [h1] at h
      cases h4 : Nat.beq rk 4 with
      | true => rw [h4] at h; exact Or.inr ⟨Nat.eq_of_beq_eq_true h4, h⟩
      | false => rw [h4] at h; exact h.elim
  · exact h.elim
theorem rI_mono {S : List MV} {rk : Nat} {k kz k' kz' : Int32 → Prop} (h : ∀ x, k x → k' x) (hz : ∀ x, kz x → kz' x) : rI S rk k kz → rI S rk k' kz' := by
  intro g
  obtain ⟨x, rfl, g2⟩ := rI_ex g
  rcases g2 with ⟨rfl, g3⟩ | ⟨rfl, g3⟩
  · exact h x g3
  · exact hz x g3
def rJ (S : List MV) (rk : Nat) (k : Int64 → Prop) : Prop := match S with
  | [.inr (.inl x)] => bif Nat.beq rk 2 then k x else False
  | _ => False
theorem rJ_ex {S : List MV} {rk : Nat} {k : Int64 → Prop} (h : rJ S rk k) : ∃ x, S = [mJ x] ∧ rk = 2 ∧ k x := by
  unfold rJ at h
  split at h
  · rename_i x
    cases h1 : Nat.beq rk 2 with
    | true => rw [h1] at h; exact ⟨x, rfl, Nat.eq_of_beq_eq_true h1, h⟩
    | false => rw [h1] at h; exact h.elim
  · exact h.elim
def rV (S : List MV) (rk : Nat) (k : Prop) : Prop := match S with
  | [] => bif Nat.beq rk 0 then k else False
  | _ => False
theorem rV_ex {S : List MV} {rk : Nat} {k : Prop} (h : rV S rk k) : S = [] ∧ rk = 0 ∧ k := by
  unfold rV at h
  split at h
  · cases h1 : Nat.beq rk 0 with
    | true => rw [h1] at h; exact ⟨rfl, Nat.eq_of_beq_eq_true h1, h⟩
    | false => rw [h1] at h; exact h.elim
  · exact h.elim
def rO (S : List MV) (rk rt : Nat) (k : Nat → Prop) : Prop := match S with
  | [.inr (.inr (.inl (0, t, c)))] => bif Nat.beq rk 3 && Nat.beq t rt then k c else False
  | _ => False
theorem rO_ex {S : List MV} {rk rt : Nat} {k : Nat → Prop} (h : rO S rk rt k) : ∃ c, S = [mO rt c] ∧ rk = 3 ∧ k c := by
  unfold rO at h
  split at h
  · rename_i t c
    cases h1 : (Nat.beq rk 3 && Nat.beq t rt) with
    | true =>
      rw [h1] at h
      simp only [Bool.and_eq_true] at h1
      exact ⟨c, by rw [Nat.eq_of_beq_eq_true h1.2], Nat.eq_of_beq_eq_true h1.1, h⟩
    | false => rw [h1] at h; exact h.elim
  · exact h.elim
theorem rJ_mono {S : List MV} {rk : Nat} {k k' : Int64 → Prop} (h : ∀ x, k x → k' x) : rJ S rk k → rJ S rk k' := by
  intro g
  obtain ⟨x, rfl, rfl, g2⟩ := rJ_ex g
  exact h x g2
theorem rV_mono {S : List MV} {rk : Nat} {k k' : Prop} (h : k → k') : rV S rk k → rV S rk k' := by
  intro g
  obtain ⟨rfl, rfl, g2⟩ := rV_ex g
  exact h g2
theorem rO_mono {S : List MV} {rk rt : Nat} {k k' : Nat → Prop} (h : ∀ c, k c → k' c) : rO S rk rt k → rO S rk rt k' := by
  intro g
  obtain ⟨c, rfl, rfl, g2⟩ := rO_ex g
  unfold rO
  have e : (Nat.beq 3 3 && Nat.beq rt rt) = true := by simp
  simp only [e, cond_true]
  exact h c g2
/-- a stored field -/
def ptF (f : Nat × Nat × Nat) (x : Int32) (k : Prop) : Prop := match f with
  | (0, _, _) => k
  | (1, _, _) => zb x ∧ k
  | _ => False
theorem ptF_ex {f : Nat × Nat × Nat} {x : Int32} {k : Prop} (h : ptF f x k) : (f.1 = 0 ∧ k) ∨ (f.1 = 1 ∧ zb x ∧ k) := by
  unfold ptF at h
  split at h
  · exact Or.inl ⟨rfl, h⟩
  · exact Or.inr ⟨rfl, h⟩
  · exact h.elim
theorem ptF_mono {f : Nat × Nat × Nat} {x : Int32} {k k' : Prop} (h : k → k') : ptF f x k → ptF f x k' := by
  unfold ptF
  split
  · exact h
  · exact fun g => ⟨g.1, h g.2⟩
  · exact fun g => g
section STP
variable (E : Ev) (K : MV → Mm → Prop) (P : Nat → List MV → List MV → Mm → Prop)
/-- what an instruction asks, so that P holds behind it -/
def opx (pc : Nat) (L S : List MV) (μ : Mm) (o : Ao) : Prop := match o with
  | (tag, v, w, a, b, _, J) => match tag / 8 with
    | 0 => match tag % 8 with
      | 0 => P (pc + 1) L (mI v :: S) μ
      | 1 => P (pc + 2) L (mI v :: S) μ
      | 2 => P (pc + 3) L (mI v :: S) μ
      | 3 => P (pc + 2) L (mI v :: S) μ
      | 4 => P (pc + 3) L (mI v :: S) μ
      | 5 => P (pc + 1) L (mJ w :: S) μ
      | 6 => P (pc + 3) L (mJ w :: S) μ
      | 7 => ldI L[a]? (fun x => P (pc + 1) L (mI x :: S) μ)
      | _ => False
    | 1 => match tag % 8 with
      | 0 => ldI L[a]? (fun x => P (pc + 2) L (mI x :: S) μ)
      | 1 => ldR L[a]? (fun x => P (pc + 1) L (.inr (.inr (.inl x)) :: S) μ)
      | 2 => ldR L[a]? (fun x => P (pc + 2) L (.inr (.inr (.inl x)) :: S) μ)
      | 3 => ldJ L[a]? (fun x => P (pc + 1) L (mJ x :: S) μ)
      | 4 => ldJ L[a]? (fun x => P (pc + 2) L (mJ x :: S) μ)
      | 5 => pI S (fun x S => P (pc + 1) (sto E.2.2.2.2.1 L a (mI x)) S μ)
      | 6 => pI S (fun x S => P (pc + 2) (sto E.2.2.2.2.1 L a (mI x)) S μ)
      | 7 => pR S (fun x S => P (pc + 1) (sto E.2.2.2.2.1 L a (.inr (.inr (.inl x)))) S μ)
      | _ => False
    | 2 => match tag % 8 with
      | 0 => pR S (fun x S => P (pc + 2) (sto E.2.2.2.2.1 L a (.inr (.inr (.inl x)))) S μ)
      | 1 => pJ S (fun x S => bif E.2.2.2.2.1 then P (pc + 1) ((sto true L a (mJ x)).set (a + 1) mU) S μ else False)
      | 2 => pJ S (fun x S => bif E.2.2.2.2.1 then P (pc + 2) ((sto true L a (mJ x)).set (a + 1) mU) S μ else False)
      | 3 => pII S (fun y x S => P (pc + 1) L (mI (x + y) :: S) μ)
      | 4 => pII S (fun y x S => P (pc + 1) L (mI (x - y) :: S) μ)
      | 5 => pII S (fun y x S => P (pc + 1) L (mI (x * y) :: S) μ)
      | 6 => pII S (fun y x S => ¬ y = 0 ∧ P (pc + 1) L (mI (x / y) :: S) μ)
      | 7 => pII S (fun y x S => ¬ y = 0 ∧ P (pc + 1) L (mI (x - x / y * y) :: S) μ)
      | _ => False
    | 3 => match tag % 8 with
      | 0 => pI S (fun x S => P (pc + 1) L (mI (-x) :: S) μ)
      | 1 => pII S (fun y x S => P (pc + 1) L (mI (x &&& y) :: S) μ)
      | 2 => pII S (fun y x S => P (pc + 1) L (mI (x ||| y) :: S) μ)
      | 3 => pII S (fun y x S => P (pc + 1) L (mI (x ^^^ y) :: S) μ)
      | 4 => pII S (fun y x S => P (pc + 1) L (mI (x <<< (y &&& 31)) :: S) μ)
      | 5 => pII S (fun y x S => P (pc + 1) L (mI (x >>> (y &&& 31)) :: S) μ)
      | 6 => pII S (fun y x S => P (pc + 1) L (mI ((x.toUInt32 >>> (y.toUInt32 &&& Int32.toUInt32 31)).toInt32) :: S) μ)
      | 7 => pJJ S (fun y x S => P (pc + 1) L (mJ (x + y) :: S) μ)
      | _ => False
    | 4 => match tag % 8 with
      | 0 => pJJ S (fun y x S => P (pc + 1) L (mJ (x * y) :: S) μ)
      | 1 => pJJ S (fun y x S => ¬ y = 0 ∧ P (pc + 1) L (mJ (x / y) :: S) μ)
      | 2 => pJJ S (fun y x S => ¬ y = 0 ∧ P (pc + 1) L (mJ (x - x / y * y) :: S) μ)
      | 3 => pJJ S (fun y x S => P (pc + 1) L (mI (lg_cmp x y) :: S) μ)
      | 4 => pI S (fun x S => P (pc + 1) L (mJ x.toInt64 :: S) μ)
      | 5 => pV S (fun v S => P (pc + 1) L (v :: v :: S) μ)
      | 6 => pIR S (fun x r S => P (pc + 1) L (.inl x :: .inr (.inr (.inl r)) :: .inl x :: .inr (.inr (.inl r)) :: S) μ)
      | 7 => ldI L[a]? (fun x => P (pc + 3) (sto E.2.2.2.2.1 L a (mI (x + v))) S μ)
      | _ => False
    | 5 => match tag % 8 with
      | 0 => P a L S μ
      | 1 => pI S (fun x S => if x = 0 then P a L S μ else P (pc + 3) L S μ)
      | 2 => pI S (fun x S => if x = 0 then P (pc + 3) L S μ else P a L S μ)
      | 3 => pI S (fun x S => if x < 0 then P a L S μ else P (pc + 3) L S μ)
      | 4 => pI S (fun x S => if 0 ≤ x then P a L S μ else P (pc + 3) L S μ)
      | 5 => pI S (fun x S => if 0 < x then P a L S μ else P (pc + 3) L S μ)
      | 6 => pI S (fun x S => if x ≤ 0 then P a L S μ else P (pc + 3) L S μ)
      | 7 => pII S (fun y x S => if x = y then P a L S μ else P (pc + 3) L S μ)
      | _ => False
    | 6 => match tag % 8 with
      | 0 => pII S (fun y x S => if x = y then P (pc + 3) L S μ else P a L S μ)
      | 1 => pII S (fun y x S => if x < y then P a L S μ else P (pc + 3) L S μ)
      | 2 => pII S (fun y x S => if y ≤ x then P a L S μ else P (pc + 3) L S μ)
      | 3 => pII S (fun y x S => if y < x then P a L S μ else P (pc + 3) L S μ)
      | 4 => pII S (fun y x S => if x ≤ y then P a L S μ else P (pc + 3) L S μ)
      | 5 => pR S (fun _ S => P (pc + 3) L S μ)
      | 6 => pR S (fun _ S => P a L S μ)
      | 7 => pO S (fun t c S => bif Nat.beq t (b / 32) then P (pc + 3) L (mF μ c (b % 32) (fo (b / 32) (b % 32)) :: S) μ else False)
      | _ => False
    | 7 => match tag % 8 with
      | 0 => pIO S (fun x t c S => bif Nat.beq t (b / 32) then ptF (fo (b / 32) (b % 32)) x (P (pc + 3) L S (mS μ c (b % 32) x)) else False)
      | 1 => pIA S (fun i n c S => vi i n ∧ P (pc + 1) L (mI (μ c i.toNatClampNeg) :: S) μ) (fun i S => vi i E.2.2.2.2.2.1 ∧ P (pc + 1) L (mI (E.2.2.2.2.2.2 i.toNatClampNeg) :: S) μ)
      | 2 => pIIA S (fun x i n c S => vi i n ∧ P (pc + 1) L S (mS μ c i.toNatClampNeg x))
      | 3 => pIZ S (fun i n c S => vi i n ∧ P (pc + 1) L (mI (μ c i.toNatClampNeg) :: S) μ)
      | 4 => pIIZ S (fun x i n c S => (zb x ∧ vi i n) ∧ P (pc + 1) L S (mS μ c i.toNatClampNeg x))
      | 5 => pA S (fun n _ S => P (pc + 1) L (mI (nI n) :: S) μ) (fun S => P (pc + 1) L (mI (nI E.2.2.2.2.2.1) :: S) μ)
      | 6 => cll (lk E.2.1 a) S μ (fun S μ => P (pc + 3) L S μ)
      | 7 => cll (lk E.2.1 a) S μ (fun S μ => P (pc + 3) L S μ)
      | _ => False
    | 8 => match tag % 8 with
      | 0 => rI S E.2.2.1 (fun x => K (mI x) μ) (fun x => zb x ∧ K (mI x) μ)
      | 1 => rJ S E.2.2.1 (fun x => K (mJ x) μ)
      | 2 => rV S E.2.2.1 (K mU μ)
      | 3 => rO S E.2.2.1 E.2.2.2.1 (fun c => K (mO E.2.2.2.1 c) μ)
      | 4 => pI S (fun x S => swt J a x (fun t => P t L S μ))
      | 5 => pI S (fun x S => swt J a x (fun t => P t L S μ))
      | _ => False
    | _ => False
def stp (pc : Nat) (L S : List MV) (μ : Mm) : Prop := match lk E.1 pc with
  | some o => opx E K P pc L S μ o
  | none => False
end STP
/-- from here the method ends with K -/
def Tot (E : Ev) (K : MV → Mm → Prop) (pc : Nat) (L S : List MV) (μ : Mm) : Prop := ∀ P : Nat → List MV → List MV → Mm → Prop, (∀ pc L S μ, stp E K P pc L S μ → P pc L S μ) → P pc L S μ
def ex (E : Ev) (cuts : List Nat) (K : MV → Mm → Prop) (F : Nat → List MV → List MV → Mm → Prop) : Nat → Nat → List MV → List MV → Mm → Prop
  | 0, _, _, _, _ => False
  | n + 1, pc, L, S, μ => stp E K (fun pc L S μ => bif cuts.elem pc then F pc L S μ else ex E cuts K F n pc L S μ) pc L S μ
def mono (sp : Sp) : Prop := ∀ (As : List MV) (μ : Mm) (K K' : MV → Mm → Prop), (∀ v μ, K v μ → K' v μ) → sp As μ K → sp As μ K'
def monoE (E : Ev) : Prop := ∀ a ce, lk E.2.1 a = some ce → mono ce.2.2.2.2
theorem ite_mono {c A B A' B' : Prop} {d : Decidable c} (h : A → A') (g : B → B') : (if c then A else B) → if c then A' else B' := by
  intro q
  split
  · rename_i e
    rw [if_pos e] at q
    exact h q
  · rename_i e
    rw [if_neg e] at q
    exact g q
theorem cnd_mono {b : Bool} {A A' : Prop} (h : A → A') : (bif b then A else False) → bif b then A' else False := by
  cases b
  · exact fun g => g
  · exact h
theorem swt_mono {J : List (Int32 × Nat)} {d : Nat} {x : Int32} {P P' : Nat → Prop} (h : ∀ t, P t → P' t) : swt J d x P → swt J d x P' := by
  induction J with
  | nil => exact h d
  | cons q r ih =>
    intro g
    unfold swt at g ⊢
    split
    · rename_i e
      rw [if_pos e] at g
      exact h _ g
    · rename_i e
      rw [if_neg e] at g
      exact ih g
theorem cll_mono {ce : Option Ce} (hm : ∀ c, ce = some c → mono c.2.2.2.2) {S : List MV} {μ : Mm} {k k' : List MV → Mm → Prop} (h : ∀ S μ, k S μ → k' S μ) : cll ce S μ k → cll ce S μ k' := by
  intro g
  match ce, hm, g with
  | some (n, kind, rt, rc, sp), hm, g =>
    unfold cll at g ⊢
    simp only at g ⊢
    cases hb : (Nat.ble n S.length && (Nat.ble (ctS (S.drop n)) 8 && (rck rc (S.take n).reverse && nq (S.take n)))) with
    | false => rw [hb] at g; exact g.elim
    | true =>
      rw [hb] at g
      refine hm _ rfl _ _ _ _ ?_ g
      intro v μ1
      unfold knd
      split <;> exact h _ _
  | none, _, g => exact g.elim
set_option maxHeartbeats 4000000 in
theorem opx_mono {E : Ev} (hm : monoE E) {K K' : MV → Mm → Prop} {P P' : Nat → List MV → List MV → Mm → Prop} (hK : ∀ v μ, K v μ → K' v μ) (hP : ∀ pc L S μ, P pc L S μ → P' pc L S μ) {pc : Nat} {L S : List MV} {μ : Mm} {o : Ao} : opx E K P pc L S μ o → opx E K' P' pc L S μ o := by
  obtain ⟨tag, v, w, a, b, c, J⟩ := o
  unfold opx
  simp only
  split <;> (try exact fun g => g.elim) <;> split
  all_goals first
    | exact fun g => g.elim
    | exact hP _ _ _ _
    | exact cll_mono (hm a) (fun _ _ => hP _ _ _ _)
    | exact ldI_mono (fun _ => hP _ _ _ _)
    | exact ldR_mono (fun _ => hP _ _ _ _)
    | exact ldJ_mono (fun _ => hP _ _ _ _)
    | exact pI_mono (fun _ _ => hP _ _ _ _)
    | exact pR_mono (fun _ _ => hP _ _ _ _)
    | exact pII_mono (fun _ _ _ => hP _ _ _ _)
    | exact pII_mono (fun _ _ _ g => ⟨g.1, hP _ _ _ _ g.2⟩)
    | exact pJJ_mono (fun _ _ _ => hP _ _ _ _)
    | exact pJJ_mono (fun _ _ _ g => ⟨g.1, hP _ _ _ _ g.2⟩)
    | exact pV_mono (fun _ _ => hP _ _ _ _)
    | exact pIR_mono (fun _ _ _ => hP _ _ _ _)
    | exact pIIA_mono (fun _ _ _ _ _ g => ⟨g.1, hP _ _ _ _ g.2⟩)
    | exact pIZ_mono (fun _ _ _ _ g => ⟨g.1, hP _ _ _ _ g.2⟩)
    | exact pIIZ_mono (fun _ _ _ _ _ g => ⟨g.1, hP _ _ _ _ g.2⟩)
    | exact pIA_mono (fun _ _ _ _ g => ⟨g.1, hP _ _ _ _ g.2⟩) (fun _ _ g => ⟨g.1, hP _ _ _ _ g.2⟩)
    | exact pA_mono (fun _ _ _ => hP _ _ _ _) (fun _ => hP _ _ _ _)
    | exact rI_mono (fun _ => hK _ _) (fun _ g => ⟨g.1, hK _ _ g.2⟩)
    | exact rJ_mono (fun _ => hK _ _)
    | exact rV_mono (hK _ _)
    | exact rO_mono (fun _ => hK _ _)
    | exact pI_mono (fun _ _ => swt_mono (fun _ => hP _ _ _ _))
    | exact pI_mono (fun _ _ => ite_mono (hP _ _ _ _) (hP _ _ _ _))
    | exact pII_mono (fun _ _ _ => ite_mono (hP _ _ _ _) (hP _ _ _ _))
    | exact pJ_mono (fun _ _ => cnd_mono (hP _ _ _ _))
    | exact pO_mono (fun _ _ _ => cnd_mono (hP _ _ _ _))
    | exact pIO_mono (fun _ _ _ _ => cnd_mono (ptF_mono (hP _ _ _ _)))
theorem stp_mono {E : Ev} (hm : monoE E) {K K' : MV → Mm → Prop} {P P' : Nat → List MV → List MV → Mm → Prop} (hK : ∀ v μ, K v μ → K' v μ) (hP : ∀ pc L S μ, P pc L S μ → P' pc L S μ) {pc : Nat} {L S : List MV} {μ : Mm} : stp E K P pc L S μ → stp E K' P' pc L S μ := by
  unfold stp
  cases lk E.1 pc with
  | none => exact fun g => g
  | some o => exact opx_mono hm hK hP
theorem Tot.step {E : Ev} (hm : monoE E) {K : MV → Mm → Prop} {pc : Nat} {L S : List MV} {μ : Mm} (h : stp E K (Tot E K) pc L S μ) : Tot E K pc L S μ := fun P hP => hP _ _ _ _ (stp_mono hm (fun _ _ g => g) (fun pc L S μ g => g P hP) h)
theorem Tot.mono {E : Ev} (hm : monoE E) {K K' : MV → Mm → Prop} (hK : ∀ v μ, K v μ → K' v μ) {pc : Nat} {L S : List MV} {μ : Mm} (h : Tot E K pc L S μ) : Tot E K' pc L S μ := fun P hP => h P (fun _ _ _ _ g => hP _ _ _ _ (stp_mono hm hK (fun _ _ _ _ q => q) g))
/-- a stretch of code, up to the cuts -/
theorem seg {E : Ev} (hm : monoE E) {K : MV → Mm → Prop} (cuts : List Nat) (n : Nat) {pc : Nat} {L S : List MV} {μ : Mm} (h : ex E cuts K (Tot E K) n pc L S μ) : Tot E K pc L S μ := by
  induction n generalizing pc L S μ with
  | zero => exact h.elim
  | succ n ih =>
    refine Tot.step hm (stp_mono hm (fun _ _ g => g) ?_ h)
    intro pc L S μ g
    cases hc : cuts.elem pc with
    | true => rw [hc] at g; exact g
    | false => rw [hc] at g; exact ih g
def en : List MV → Nat → List MV
  | [], n => List.replicate n mU
  | .inr (.inl x) :: vs, n => mJ x :: mU :: en vs (n - 2)
  | v :: vs, n => v :: en vs (n - 1)
def nJ : List MV → Bool
  | [] => true
  | .inr (.inl _) :: _ => false
  | _ :: S => nJ S
/-- what a method does: run it from its first instruction -/
def spc (E : Ev) (nL : Nat) : Sp := fun As μ K => bif Nat.ble (ctS As) nL && (E.2.2.2.2.1 || nJ As) then Tot E K 0 (en As nL) [] μ else False
theorem spc_mono {E : Ev} (hm : monoE E) (nL : Nat) : mono (spc E nL) := fun _ _ _ _ hK h => cnd_mono (Tot.mono hm hK) h
end
section
/-! ===== the small machine is the machine: locals, world, one instruction ===== -/
def toL (ad : Nat → Nat) (b : Nat) : Nat → List MV → List (Nat × Value)
  | _, [] => []
  | i, v :: vs => match v with
    | .inr (.inr (.inr _)) => toL ad b (i + 1) vs
    | v => (i, tv ad b v) :: toL ad b (i + 1) vs
theorem toL_of {ad : Nat → Nat} {b : Nat} : ∀ (L : List MV) (i k : Nat) (v : MV), L[k]? = some v → v ≠ mU → (i + k, tv ad b v) ∈ toL ad b i L := by
  intro L
  induction L with
  | nil => intro i k v h; simp at h
  | cons x L ih =>
    intro i k v h hv
    unfold toL
    cases k with
    | zero =>
      simp at h
      subst h
      split
      · exact absurd rfl hv
      · exact List.mem_cons_self
    | succ k =>
      have h1 := ih (i + 1) k v (by simpa using h) hv
      have e : i + 1 + k = i + (k + 1) := by omega
      rw [e] at h1
      split
      · exact h1
      · exact List.mem_cons_of_mem _ h1
theorem of_toL {ad : Nat → Nat} {b : Nat} : ∀ (L : List MV) (i : Nat) (q : Nat × Value), q ∈ toL ad b i L → ∃ k v, L[k]? = some v ∧ v ≠ mU ∧ q = (i + k, tv ad b v) := by
  intro L
  induction L with
  | nil => intro i q h; cases h
  | cons x L ih =>
    intro i q h
    unfold toL at h
    split at h
    · obtain ⟨k, v, h1, h2, h3⟩ := ih _ _ h
      exact ⟨k + 1, v, by simpa using h1, h2, by rw [h3]; congr 1; omega⟩
    · rename_i hx
      rcases List.mem_cons.mp h with h | h
      · exact ⟨0, x, rfl, fun e => hx _ e, by rw [h]; rfl⟩
      · obtain ⟨k, v, h1, h2, h3⟩ := ih _ _ h
        exact ⟨k + 1, v, by simpa using h1, h2, by rw [h3]; congr 1; omega⟩
def lR (ad : Nat → Nat) (b nL : Nat) (lg : Bool) (ls : Array Slot) (L : List MV) : Prop :=
  lv_has ls nL (toL ad b 0 L) ∧ L.length = nL ∧ (lg = false → ∀ (i : Nat) (x : Int64), L[i]? ≠ some (mJ x))
theorem lR.at {ad : Nat → Nat} {b nL : Nat} {lg : Bool} {ls : Array Slot} {L : List MV} (h : lR ad b nL lg ls L) {i : Nat} {v : MV} (hi : L[i]? = some v) (hv : v ≠ mU) : ls[i]? = some (.val (tv ad b v)) := by
  have h1 := h.1.2.2 _ (toL_of (ad := ad) (b := b) L 0 i v hi hv)
  simpa using h1
theorem tv_cat {ad : Nat → Nat} {b : Nat} {v : MV} (h : ∀ x, v ≠ mJ x) : (tv ad b v).category = 1 := by
  match v, h with
  | .inl x, _ => rfl
  | .inr (.inl x), h => exact absurd rfl (h x)
  | .inr (.inr (.inl (k, t, c))), _ =>
    unfold tv
    simp only
    split <;> rfl
  | .inr (.inr (.inr _)), _ => rfl
theorem clr_len (L : List MV) (a : Nat) : (clr L a).length = L.length := by
  unfold clr
  split
  · rfl
  · split <;> simp
theorem sto_len (lg : Bool) (L : List MV) (a : Nat) (v : MV) : (sto lg L a v).length = L.length := by
  cases lg <;> simp [sto, clr_len]
theorem clr_get {L : List MV} {a j : Nat} {w : MV} (h : (clr L a)[j]? = some w) (hw : w ≠ mU) : L[j]? = some w ∧ (j + 1 = a → ∀ x, w ≠ mJ x) := by
  unfold clr at h
  split at h
  · exact ⟨h, fun e => by omega⟩
  · rename_i a'
    split at h
    · rename_i x hx
      by_cases e : a' = j
      · subst e
        rw [List.getElem?_set_self (List.getElem?_eq_some_iff.mp hx).1] at h
        exact absurd (Option.some.inj h).symm hw
      · rw [List.getElem?_set_ne e] at h
        exact ⟨h, fun e2 => absurd (by omega) e⟩
    · rename_i hx
      refine ⟨h, fun e2 x e3 => ?_⟩
      have e4 : a' = j := by omega
      subst e4; subst e3
      exact hx x h
theorem sto_get {lg : Bool} {L : List MV} {a j : Nat} {v w : MV} (hj : j ≠ a) (h : (sto lg L a v)[j]? = some w) (hw : w ≠ mU) : L[j]? = some w ∧ (lg = true → j + 1 = a → ∀ x, w ≠ mJ x) := by
  cases lg with
  | false =>
    unfold sto at h
    rw [cond_false, List.getElem?_set_ne (fun e => hj e.symm)] at h
    exact ⟨h, fun e => by cases e⟩
  | true =>
    unfold sto at h
    rw [cond_true, List.getElem?_set_ne (fun e => hj e.symm)] at h
    exact ⟨(clr_get h hw).1, fun _ => (clr_get h hw).2⟩
theorem sto_at {lg : Bool} {L : List MV} {a : Nat} {v : MV} (h : a < L.length) : (sto lg L a v)[a]? = some v := by
  cases lg with
  | false => unfold sto; rw [cond_false, List.getElem?_set_self h]
  | true => unfold sto; rw [cond_true, List.getElem?_set_self (by rw [clr_len]; exact h)]
theorem sto_wt {sc : Bool} {lg : Bool} {L : List MV} {a : Nat} {v : MV} (h : ∀ w ∈ L, wtv sc w) (hv : wtv sc v) : ∀ w ∈ sto lg L a v, wtv sc w := by
  intro w hw
  by_cases e : w = mU
  · subst e; trivial
  obtain ⟨j, hj⟩ := List.getElem?_of_mem hw
  by_cases hja : j = a
  · subst hja
    have hl : j < (sto lg L j v).length := (List.getElem?_eq_some_iff.mp hj).1
    rw [sto_len] at hl
    rw [sto_at hl] at hj
    rw [← Option.some.inj hj]; exact hv
  · exact h w (List.mem_of_getElem? (sto_get hja hj e).1)
theorem lR.sto1 {ad : Nat → Nat} {b nL : Nat} {lg : Bool} {ls ls' : Array Slot} {L : List MV} {a : Nat} {v : MV} (h : lR ad b nL lg ls L) (ha : a < nL) (hv : v ≠ mU) (hJ : ∀ x, v ≠ mJ x)
    (h' : lv_has ls' nL ((a, tv ad b v) :: (toL ad b 0 L).filter (fun q => !(q.1 == a) && !(q.1 + 1 == a && q.2.category == 2)))) : lR ad b nL lg ls' (sto lg L a v) := by
  refine ⟨⟨h'.1, h'.2.1, fun q hq => ?_⟩, by rw [sto_len]; exact h.2.1, fun e i x hx => ?_⟩
  · obtain ⟨k, w, h1, h2, rfl⟩ := of_toL _ _ _ hq
    simp only [Nat.zero_add]
    by_cases hk : k = a
    · subst hk
      rw [sto_at (by rw [h.2.1]; exact ha)] at h1
      rw [← Option.some.inj h1]
      exact h'.2.2 _ List.mem_cons_self
    · obtain ⟨g1, g2⟩ := sto_get hk h1 h2
      refine h'.2.2 (k, tv ad b w) (List.mem_cons_of_mem _ (List.mem_filter.mpr ⟨by simpa using toL_of (ad := ad) (b := b) L 0 k w g1 h2, ?_⟩))
      have hc : k + 1 = a → (tv ad b w).category = 1 := by
        intro e
        refine tv_cat ?_
        cases lg with
        | false => exact fun x hx => h.2.2 rfl k x (by rw [g1, hx])
        | true => exact g2 rfl e
      simp only [Bool.and_eq_true, Bool.not_eq_true', beq_eq_false_iff_ne, ne_eq]
      refine ⟨hk, ?_⟩
      cases hz : (k + 1 == a) with
      | false => rfl
      | true =>
        rw [hc (by simpa using hz)]; rfl
  · by_cases hi : i = a
    · subst hi
      rw [sto_at (by rw [h.2.1]; exact ha)] at hx
      exact hJ x (Option.some.inj hx)
    · exact h.2.2 e i x (sto_get hi hx (by intro e; cases e)).1
theorem lR.sto2 {ad : Nat → Nat} {b nL : Nat} {ls ls' : Array Slot} {L : List MV} {a : Nat} {x : Int64} (h : lR ad b nL true ls L) (ha : a + 1 < nL)
    (h' : lv_has ls' nL ((a, .long x) :: (toL ad b 0 L).filter (fun q => !(q.1 == a) && (!(q.1 == a + 1) && !(q.1 + 1 == a && q.2.category == 2))))) : lR ad b nL true ls' ((sto true L a (mJ x)).set (a + 1) mU) := by
  refine ⟨⟨h'.1, h'.2.1, fun q hq => ?_⟩, by rw [List.length_set, sto_len]; exact h.2.1, fun e => by cases e⟩
  obtain ⟨k, w, h1, h2, rfl⟩ := of_toL _ _ _ hq
  simp only [Nat.zero_add]
  by_cases hk1 : a + 1 = k
  · subst hk1
    rw [List.getElem?_set_self (by rw [sto_len, h.2.1]; exact ha)] at h1
    exact absurd (Option.some.inj h1).symm h2
  rw [List.getElem?_set_ne hk1] at h1
  by_cases hk : k = a
  · subst hk
    rw [sto_at (by rw [h.2.1]; omega)] at h1
    rw [← Option.some.inj h1]
    exact h'.2.2 _ List.mem_cons_self
  · obtain ⟨g1, g2⟩ := sto_get hk h1 h2
    refine h'.2.2 (k, tv ad b w) (List.mem_cons_of_mem _ (List.mem_filter.mpr ⟨by simpa using toL_of (ad := ad) (b := b) L 0 k w g1 h2, ?_⟩))
    simp only [Bool.and_eq_true, Bool.not_eq_true', beq_eq_false_iff_ne, ne_eq]
    refine ⟨hk, fun e => hk1 e.symm, ?_⟩
    cases hz : (k + 1 == a) with
    | false => rfl
    | true =>
      rw [tv_cat (g2 rfl (by simpa using hz))]; rfl
-- the world
theorem wl_get {ad : Nat → Nat} {cI cB : Nat} {μ : Mm} {k : Nat} {q : Nat × Nat} (h : lyL[k]? = some q) : (wl ad cI cB μ)[k]? = some (ad k, cE ad cI cB μ k q) := by
  unfold wl
  rw [List.getElem?_mapIdx, h]
  rfl
theorem wl_inv {ad : Nat → Nat} {cI cB : Nat} {μ : Mm} {k : Nat} {x : Nat × va_E} (h : (wl ad cI cB μ)[k]? = some x) : ∃ q, lyL[k]? = some q ∧ x = (ad k, cE ad cI cB μ k q) := by
  unfold wl at h
  rw [List.getElem?_mapIdx] at h
  cases hq : lyL[k]? with
  | none => rw [hq] at h; cases h
  | some q => rw [hq] at h; exact ⟨q, rfl, (Option.some.inj h).symm⟩
theorem wl_D {A : Nat → Prop} {ad : Nat → Nat} {cI cB : Nat} {μ : Mm} (h : va_D A (wl ad cI cB μ)) (μ' : Mm) : va_D A (wl ad cI cB μ') := by
  refine ⟨fun i j p q hi hj e => ?_, fun k q hk => ?_⟩
  · obtain ⟨x, h1, rfl⟩ := wl_inv hi
    obtain ⟨y, h2, rfl⟩ := wl_inv hj
    exact h.1 i j _ _ (wl_get h1) (wl_get h2) e
  · obtain ⟨x, h1, rfl⟩ := wl_inv hk
    exact h.2 k (ad k, cE ad cI cB μ k x) (wl_get h1)
theorem mS_ne {μ : Mm} {c k : Nat} {x : Int32} {c' k' : Nat} (h : ¬ (c' = c ∧ k' = k)) : mS μ c k x c' k' = μ c' k' := if_neg h
theorem mS_eq {μ : Mm} {c k : Nat} {x : Int32} : mS μ c k x c k = x := if_pos ⟨rfl, rfl⟩
theorem mF_ne {ad : Nat → Nat} {b : Nat} {μ : Mm} {c k : Nat} {x : Int32} {c' k' : Nat} (h : ¬ (c' = c ∧ k' = k)) (f : Nat × Nat × Nat) : tv ad b (mF (mS μ c k x) c' k' f) = tv ad b (mF μ c' k' f) := by
  unfold mF
  split <;> first | rfl | (rw [mS_ne h])
theorem cE_ne {ad : Nat → Nat} {cI cB : Nat} {μ : Mm} {c k : Nat} {x : Int32} {c' : Nat} (h : c' ≠ c) (q : Nat × Nat) : cE ad cI cB (mS μ c k x) c' q = cE ad cI cB μ c' q := by
  have e : ∀ k', mS μ c k x c' k' = μ c' k' := fun k' => mS_ne (fun z => h z.1)
  have e2 : mS μ c k x c' = μ c' := funext e
  unfold cE
  rw [e2]
  have e3 : (fun (k' : Nat) (f : Nat × Nat × Nat) => tv ad 0 (mF (mS μ c k x) c' k' f)) = (fun k' f => tv ad 0 (mF μ c' k' f)) := by
    funext k' f
    exact mF_ne (fun z => h z.1) f
  rw [e3]
theorem wl_set {ad : Nat → Nat} {cI cB : Nat} {μ : Mm} {c k : Nat} {x : Int32} {q : Nat × Nat} {v : va_E} (h : lyL[c]? = some q) (hv : v = cE ad cI cB (mS μ c k x) c q) : (wl ad cI cB μ).set c (ad c, v) = wl ad cI cB (mS μ c k x) := by
  apply List.ext_getElem?
  intro i
  by_cases hi : c = i
  · subst hi
    rw [wl_get h, List.getElem?_set_self (List.getElem?_eq_some_iff.mp (wl_get (ad := ad) (cI := cI) (cB := cB) (μ := μ) h)).1, hv]
  · rw [List.getElem?_set_ne hi]
    unfold wl
    rw [List.getElem?_mapIdx, List.getElem?_mapIdx]
    cases lyL[i]? with
    | none => rfl
    | some y => show some (ad i, _) = some (ad i, _); rw [cE_ne (fun e => hi e.symm)]
theorem upd_mS (μ : Mm) (c i : Nat) (x : Int32) : upd (μ c) i x = mS μ c i x c := by
  funext j
  unfold upd mS
  by_cases h : j = i
  · rw [if_pos h, if_pos ⟨rfl, h⟩]
  · rw [if_neg h, if_neg (fun z => h z.2)]
def fsO (ad : Nat → Nat) (μ : Mm) (c t : Nat) : List Value := (foL.getD t []).mapIdx (fun k f => tv ad 0 (mF μ c k f))
theorem fs_get {ad : Nat → Nat} {μ : Mm} {c t k : Nat} (h : k < (foL.getD t []).length) : (fsO ad μ c t)[k]? = some (tv ad 0 (mF μ c k (fo t k))) := by
  unfold fsO fo
  rw [List.getElem?_mapIdx, List.getElem?_eq_getElem h]
  show some _ = some _
  rw [List.getD_eq_getElem?_getD (l := foL.getD t []), List.getElem?_eq_getElem h]
  rfl
theorem fs_set {ad : Nat → Nat} {μ : Mm} {c t k : Nat} {x : Int32} (h : k < (foL.getD t []).length) (hk : (fo t k).1 = 0 ∨ (fo t k).1 = 1) : (fsO ad μ c t).set k (.int x) = fsO ad (mS μ c k x) c t := by
  apply List.ext_getElem?
  intro i
  by_cases hi : k = i
  · subst hi
    rw [fs_get h, List.getElem?_set_self (by unfold fsO; rw [List.length_mapIdx]; exact h)]
    generalize hy : fo t k = y at hk ⊢
    obtain ⟨y0, y1, y2⟩ := y
    rcases hk with e | e <;> (simp only at e; subst e; show some (Value.int x) = some (.int (mS μ c k x c k)); rw [mS_eq])
  · rw [List.getElem?_set_ne hi]
    unfold fsO
    rw [List.getElem?_mapIdx, List.getElem?_mapIdx]
    cases (foL.getD t [])[i]? with
    | none => rfl
    | some y => show some (tv ad 0 (mF μ c i y)) = some (tv ad 0 (mF (mS μ c k x) c i y)); rw [mF_ne (fun z => hi z.2.symm)]
def layB : Bool := (List.range 72).all (fun c => match lyL.getD c (99, 0) with
  | (t, _) => bif Nat.blt t 20 then (List.range (foL.getD t []).length).all (fun k => match fo t k with
    | (2, off, t') => decide (lyL[c + off]? = some (t', 0)) && Nat.blt t' 10
    | (3, off, n) => decide (lyL[c + off]? = some (20, n))
    | (4, off, n) => decide (lyL[c + off]? = some (21, n))
    | (0, _, _) => true
    | (1, _, _) => true
    | _ => false) else true)
theorem layB_ok : layB = true := by decide +kernel
theorem lay_wt {sc : Bool} {μ : Mm} {t c k : Nat} (h : lyL[c]? = some (t, 0)) (ht : t < 10) (hk : k < (foL.getD t []).length) : wtv sc (mF μ c k (fo t k)) := by
  have hc : c < 72 := (List.getElem?_eq_some_iff.mp h).1
  have h1 := List.all_eq_true.mp layB_ok c (List.mem_range.mpr hc)
  rw [List.getD_eq_getElem?_getD, h] at h1
  have hb : Nat.blt t 20 = true := by simp [Nat.blt_eq]; omega
  simp only [Option.getD_some, hb, cond_true] at h1
  have h2 := List.all_eq_true.mp h1 k (List.mem_range.mpr hk)
  generalize hy : fo t k = y at h2 ⊢
  obtain ⟨y0, y1, y2⟩ := y
  match y0, h2 with
  | 0, _ => exact trivial
  | 1, _ => exact trivial
  | 2, h2 =>
    simp only [Bool.and_eq_true, decide_eq_true_eq, Nat.blt_eq] at h2
    exact h2
  | 3, h2 =>
    simp only [decide_eq_true_eq] at h2
    exact h2
  | 4, h2 =>
    simp only [decide_eq_true_eq] at h2
    exact ⟨rfl, h2⟩
  | n + 5, h2 => cases h2
theorem tv_mF {ad : Nat → Nat} {b : Nat} {μ : Mm} {c k : Nat} (f : Nat × Nat × Nat) : tv ad b (mF μ c k f) = tv ad 0 (mF μ c k f) := by
  unfold mF
  split <;> rfl
-- the tables' words that every method takes
def lw_g : List Cond := lw_tbl.filter goodWord
theorem mem_g {w : Cond} {i : Nat} (h : lw_tbl[i]? = some w) (hg : goodWord w = true) : w ∈ lw_g := List.mem_filter.mpr ⟨List.mem_of_getElem? h, hg⟩
theorem good_g : ∀ w ∈ lw_g, (w.onTables && w.keeps) = true ∨ ∃ ty, w = .arrayClass ty := fun _ h => good_of_word (List.mem_filter.mp h).2
theorem in_g {ws : List Cond} (h : ws.all (fun w => decide (w ∈ lw_tbl) && goodWord w) = true) : ∀ w ∈ ws, w ∈ lw_g := by
  intro w hw
  have h1 := List.all_eq_true.mp h w hw
  simp only [Bool.and_eq_true, decide_eq_true_eq] at h1
  exact List.mem_filter.mpr h1
-- the classes
def clsOK (ci : Nat) (C : String) (T : u_T) (N : Nat) : Prop := ∃ ty0 : Nat → FieldType, (∀ w ∈ u_ws C T N, w ∈ lw_g) ∧ (∀ k, k < N → parseFieldDescriptor (T k).2.2.1 = some (ty0 k)) ∧ (∀ a, a < N → ∀ b, b < N → a ≠ b → (T a).2.1 ≠ (T b).2.1) ∧ (foL.getD ci []).length = N ∧ ∀ k, k < N → ((fo ci k).1 = 0 → ty0 k = .int ∧ (T k).2.2.2 = false) ∧ ((fo ci k).1 = 1 → ty0 k = .boolean ∧ (T k).2.2.2 = false)
theorem iX0 : ∀ w ∈ wsX00, w ∈ lw_g := in_g (by decide +kernel)
theorem iX1 : ∀ w ∈ wsX10, w ∈ lw_g := in_g (by decide +kernel)
theorem iX2 : ∀ w ∈ wsX20, w ∈ lw_g := in_g (by decide +kernel)
theorem iX3 : ∀ w ∈ wsX30, w ∈ lw_g := in_g (by decide +kernel)
theorem iX4 : ∀ w ∈ wsX40, w ∈ lw_g := in_g (by decide +kernel)
theorem iX6 : ∀ w ∈ wsX60, w ∈ lw_g := in_g (by decide +kernel)
theorem iX7 : ∀ w ∈ wsX70, w ∈ lw_g := in_g (by decide +kernel)
theorem iX8 : ∀ w ∈ wsX80, w ∈ lw_g := in_g (by decide +kernel)
theorem iX9 : ∀ w ∈ wsX90, w ∈ lw_g := in_g (by decide +kernel)
theorem iX10 : ∀ w ∈ wsX100, w ∈ lw_g := in_g (by decide +kernel)
theorem cls_ok : ∀ (ci : Nat) (q : vw_C), vwCl[ci]? = some q → clsOK ci q.1 q.2.1 q.2.2
  | 0, _, rfl => ⟨tyX0, iX0, tyX0_ok, nmX0, rfl, by decide +kernel⟩
  | 1, _, rfl => ⟨tyX1, iX1, tyX1_ok, nmX1, rfl, by decide +kernel⟩
  | 2, _, rfl => ⟨tyX2, iX2, tyX2_ok, nmX2, rfl, by decide +kernel⟩
  | 3, _, rfl => ⟨tyX3, iX3, tyX3_ok, nmX3, rfl, by decide +kernel⟩
  | 4, _, rfl => ⟨tyX4, iX4, tyX4_ok, nmX4, rfl, by decide +kernel⟩
  | 5, _, rfl => ⟨tyX6, iX6, tyX6_ok, nmX6, rfl, by decide +kernel⟩
  | 6, _, rfl => ⟨tyX7, iX7, tyX7_ok, nmX7, rfl, by decide +kernel⟩
  | 7, _, rfl => ⟨tyX8, iX8, tyX8_ok, nmX8, rfl, by decide +kernel⟩
  | 8, _, rfl => ⟨tyX9, iX9, tyX9_ok, nmX9, rfl, by decide +kernel⟩
  | 9, _, rfl => ⟨tyX10, iX10, tyX10_ok, nmX10, rfl, by decide +kernel⟩
  | n + 10, _, h => by simp [vwCl] at h
/-- the two links to a private method of a nest mate -/
def y_within : MethodName := ⟨RX9, "within", "(III)Z"⟩
def nst (U : State) : Prop := va_Nw (.methodLinkNest RX3 40 y_within RX9) U ∧ va_Nw (.methodLinkNest RX8 73 y_within RX9) U
theorem nst.warm {s U : State} (hW : s.WarmedH U.vm) (h : nst s) : nst U := ⟨va_Nw.warmM hW h.1, va_Nw.warmM hW h.2⟩
theorem nst.same {u U : State} (e : u.vm = U.vm) (h : nst u) : nst U := ⟨va_Nw.same rfl e h.1, va_Nw.same rfl e h.2⟩
theorem nst_of {args : Array Value} {s : State} (hts : ∀ w ∈ lw_tbl, w.before args s = true) : nst s := ⟨va_Nw.of rfl (hts _ (by decide +kernel)), va_Nw.of rfl (hts _ (by decide +kernel))⟩
end
section
/-! ===== what an instruction of the small machine stands for; contracts; one instruction is sound ===== -/
def dcc (pc : Nat) (o : Ao) : Instr × Nat := match o with
  | (tag, v, w, a, _, _, J) => match tag / 8 with
    | 0 => match tag % 8 with
      | 0 => (.iconst v.toInt, 1)
      | 1 => (.bipush v.toInt, 2)
      | 2 => (.sipush v.toInt, 3)
      | 3 => (.ldc a, 2)
      | 4 => (.ldc_w a, 3)
      | 5 => (.lconst (if w = 0 then 0 else 1), 1)
      | 6 => (.ldc2_w a, 3)
      | 7 => (.iload_n (Fin.ofNat 4 a), 1)
      | _ => (.nop, 0)
    | 1 => match tag % 8 with
      | 0 => (.iload a, 2)
      | 1 => (.aload_n (Fin.ofNat 4 a), 1)
      | 2 => (.aload a, 2)
      | 3 => (.lload_n (Fin.ofNat 4 a), 1)
      | 4 => (.lload a, 2)
      | 5 => (.istore_n (Fin.ofNat 4 a), 1)
      | 6 => (.istore a, 2)
      | 7 => (.astore_n (Fin.ofNat 4 a), 1)
      | _ => (.nop, 0)
    | 2 => match tag % 8 with
      | 0 => (.astore a, 2)
      | 1 => (.lstore_n (Fin.ofNat 4 a), 1)
      | 2 => (.lstore a, 2)
      | 3 => (.iadd, 1)
      | 4 => (.isub, 1)
      | 5 => (.imul, 1)
      | 6 => (.idiv, 1)
      | 7 => (.irem, 1)
      | _ => (.nop, 0)
    | 3 => match tag % 8 with
      | 0 => (.ineg, 1)
      | 1 => (.iand, 1)
      | 2 => (.ior, 1)
      | 3 => (.ixor, 1)
      | 4 => (.ishl, 1)
      | 5 => (.ishr, 1)
      | 6 => (.iushr, 1)
      | 7 => (.ladd, 1)
      | _ => (.nop, 0)
    | 4 => match tag % 8 with
      | 0 => (.lmul, 1)
      | 1 => (.ldiv, 1)
      | 2 => (.lrem, 1)
      | 3 => (.lcmp, 1)
      | 4 => (.i2l, 1)
      | 5 => (.dup, 1)
      | 6 => (.dup2, 1)
      | 7 => (.iinc a v.toInt, 3)
      | _ => (.nop, 0)
    | 5 => match tag % 8 with
      | 0 => (.goto ((a : Int) - pc), 3)
      | 1 => (.ifCond .eq ((a : Int) - pc), 3)
      | 2 => (.ifCond .ne ((a : Int) - pc), 3)
      | 3 => (.ifCond .lt ((a : Int) - pc), 3)
      | 4 => (.ifCond .ge ((a : Int) - pc), 3)
      | 5 => (.ifCond .gt ((a : Int) - pc), 3)
      | 6 => (.ifCond .le ((a : Int) - pc), 3)
      | 7 => (.if_icmp .eq ((a : Int) - pc), 3)
      | _ => (.nop, 0)
    | 6 => match tag % 8 with
      | 0 => (.if_icmp .ne ((a : Int) - pc), 3)
      | 1 => (.if_icmp .lt ((a : Int) - pc), 3)
      | 2 => (.if_icmp .ge ((a : Int) - pc), 3)
      | 3 => (.if_icmp .gt ((a : Int) - pc), 3)
      | 4 => (.if_icmp .le ((a : Int) - pc), 3)
      | 5 => (.ifnull ((a : Int) - pc), 3)
      | 6 => (.ifnonnull ((a : Int) - pc), 3)
      | 7 => (.getfield a, 3)
      | _ => (.nop, 0)
    | 7 => match tag % 8 with
      | 0 => (.putfield a, 3)
      | 1 => (.iaload, 1)
      | 2 => (.iastore, 1)
      | 3 => (.baload, 1)
      | 4 => (.bastore, 1)
      | 5 => (.arraylength, 1)
      | 6 => (.invokevirtual a, 3)
      | 7 => (.invokestatic a, 3)
      | _ => (.nop, 0)
    | 8 => match tag % 8 with
      | 0 => (.ireturn, 1)
      | 1 => (.lreturn, 1)
      | 2 => (.return_, 1)
      | 3 => (.areturn, 1)
      | 4 => (.tableswitch ((a : Int) - pc) (J.headD (0, 0)).1.toInt ((J.headD (0, 0)).1.toInt + J.length - 1) (J.map (fun q => (q.2 : Int) - pc)).toArray, 1 + (3 - pc % 4) + 12 + 4 * J.length)
      | 5 => (.lookupswitch ((a : Int) - pc) (J.map (fun q => (q.1.toInt, (q.2 : Int) - pc))).toArray, 1 + (3 - pc % 4) + 8 + 8 * J.length)
      | _ => (.nop, 0)
    | _ => (.nop, 0)
def srt : List (Int32 × Nat) → Bool
  | q :: r :: J => decide (q.1.toInt < r.1.toInt) && srt (r :: J)
  | _ => true
def sfld (own : String) (a b c : Nat) : Bool := match vwCl[b / 32]? with
  | some q => decide (b % 32 < q.2.2) && decide (lw_tbl[c]? = some (.fieldLink own a (q.2.1 (b % 32)).1 (q.2.1 (b % 32)).2.1 (q.2.1 (b % 32)).2.2.1))
  | none => false
theorem sfld_ex {own : String} {a b c : Nat} (h : sfld own a b c = true) : ∃ q, vwCl[b / 32]? = some q ∧ b % 32 < q.2.2 ∧ lw_tbl[c]? = some (.fieldLink own a (q.2.1 (b % 32)).1 (q.2.1 (b % 32)).2.1 (q.2.1 (b % 32)).2.2.1) := by
  unfold sfld at h
  split at h
  · rename_i q hq
    simp only [Bool.and_eq_true, decide_eq_true_eq] at h
    exact ⟨q, hq, h.1, h.2⟩
  · cases h
def sid (own : String) (nL : Nat) (o : Ao) : Bool := match o with
  | (tag, v, w, a, b, c, J) => match tag / 8 with
    | 0 => match tag % 8 with
      | 0 => true
      | 1 => decide ((Int8.ofInt v.toInt).toInt32 = v)
      | 2 => decide ((Int16.ofInt v.toInt).toInt32 = v)
      | 3 => decide (lw_tbl[c]? = some (.constant own a v))
      | 4 => decide (lw_tbl[c]? = some (.constant own a v))
      | 5 => decide (w = 0 ∨ w = 1)
      | 6 => decide (lw_tbl[c]? = some (.constantLong own a w))
      | 7 => decide (a < 4)
      | _ => false
    | 1 => match tag % 8 with
      | 0 => true
      | 1 => decide (a < 4)
      | 2 => true
      | 3 => decide (a < 4)
      | 4 => true
      | 5 => decide (a < 4 ∧ a < nL)
      | 6 => decide (a < nL)
      | 7 => decide (a < 4 ∧ a < nL)
      | _ => false
    | 2 => match tag % 8 with
      | 0 => decide (a < nL)
      | 1 => decide (a < 4 ∧ a + 1 < nL)
      | 2 => decide (a + 1 < nL)
      | 3 => true
      | 4 => true
      | 5 => true
      | 6 => true
      | 7 => true
      | _ => false
    | 3 => match tag % 8 with
      | 0 => true
      | 1 => true
      | 2 => true
      | 3 => true
      | 4 => true
      | 5 => true
      | 6 => true
      | 7 => true
      | _ => false
    | 4 => match tag % 8 with
      | 0 => true
      | 1 => true
      | 2 => true
      | 3 => true
      | 4 => true
      | 5 => true
      | 6 => true
      | 7 => decide (a < nL)
      | _ => false
    | 5 => match tag % 8 with
      | 0 => true
      | 1 => true
      | 2 => true
      | 3 => true
      | 4 => true
      | 5 => true
      | 6 => true
      | 7 => true
      | _ => false
    | 6 => match tag % 8 with
      | 0 => true
      | 1 => true
      | 2 => true
      | 3 => true
      | 4 => true
      | 5 => true
      | 6 => true
      | 7 => sfld own a b c
      | _ => false
    | 7 => match tag % 8 with
      | 0 => sfld own a b c
      | 1 => true
      | 2 => true
      | 3 => true
      | 4 => true
      | 5 => true
      | 6 => true
      | 7 => true
      | _ => false
    | 8 => match tag % 8 with
      | 0 => true
      | 1 => true
      | 2 => true
      | 3 => true
      | 4 => (List.range J.length).all (fun i => decide ((J.getD i (0, 0)).1.toInt = (J.headD (0, 0)).1.toInt + i))
      | 5 => srt J
      | _ => false
    | _ => false
def vck (E : Ev) (o : Ao) : Bool := bif Nat.beq o.1 62 then (match lk E.2.1 o.2.2.2.1 with
  | some ce => !Nat.beq ce.2.2.2.1 0
  | none => false) else bif Nat.beq o.1 63 then (match lk E.2.1 o.2.2.2.1 with
  | some ce => Nat.beq ce.2.2.2.1 0
  | none => false) else true
theorem vck_v {E : Ev} {v : Int32} {w : Int64} {a b c : Nat} {J : List (Int32 × Nat)} {ce : Ce} (h : vck E (62, v, w, a, b, c, J) = true) (hc : lk E.2.1 a = some ce) : ce.2.2.2.1 ≠ 0 := by
  have h1 : (match lk E.2.1 a with
    | some ce => !Nat.beq ce.2.2.2.1 0
    | none => false) = true := h
  rw [hc] at h1
  intro e
  simp only [e] at h1
  cases h1
theorem vck_s {E : Ev} {v : Int32} {w : Int64} {a b c : Nat} {J : List (Int32 × Nat)} {ce : Ce} (h : vck E (63, v, w, a, b, c, J) = true) (hc : lk E.2.1 a = some ce) : ce.2.2.2.1 = 0 := by
  have h1 : (match lk E.2.1 a with
    | some ce => Nat.beq ce.2.2.2.1 0
    | none => false) = true := h
  rw [hc] at h1
  exact Nat.eq_of_beq_eq_true h1
def chk (cc : ByteArray) (own : String) (nL : Nat) (q : Nat × Ao) : Bool := (match decode cc q.1 with
  | .ok z => decide (z = dcc q.1 q.2)
  | .error _ => false) && sid own nL q.2
theorem chk_dec {cc : ByteArray} {own : String} {nL pc : Nat} {o : Ao} (h : chk cc own nL (pc, o) = true) : decode cc pc = .ok (dcc pc o) ∧ sid own nL o = true := by
  unfold chk at h
  simp only [Bool.and_eq_true] at h
  refine ⟨?_, h.2⟩
  have h1 := h.1
  split at h1
  · rename_i z hz
    rw [hz, of_decide_eq_true h1]
  · cases h1
theorem lk_mem {α : Type} : ∀ {l : List (Nat × α)} {k : Nat} {v : α}, lk l k = some v → (k, v) ∈ l := by
  intro l
  induction l with
  | nil => intro k v h; cases h
  | cons q r ih =>
    intro k v h
    unfold lk at h
    cases hb : Nat.beq q.1 k with
    | true =>
      rw [hb, cond_true] at h
      have e := Nat.eq_of_beq_eq_true hb
      have e2 := Option.some.inj h
      subst e; subst e2
      exact List.mem_cons_self
    | false =>
      rw [hb, cond_false] at h
      exact List.mem_cons_of_mem _ (ih h)
def wld (D : va_G) (ad : Nat → Nat) (cI cB : Nat) (A : Nat → Prop) (μ : Mm) (U : State) : Prop := va_P D vwCl (wl ad cI cB μ) U.heap ∧ va_K D vwCl (ty2 cI cB) U ∧ va_D A (wl ad cI cB μ) ∧ nst U
def Qk (kind rt : Nat) (K : MV → Mm → Prop) (D : va_G) (ad : Nat → Nat) (cI cB : Nat) (A1 : Nat → Prop) : Array Value → State → Outcome → State → Prop := match kind with
  | 0 => va_Qv (fun u : Mm => K mU u) (fun u t => wld D ad cI cB A1 u t) A1
  | 1 => va_Qi (fun r (u : Mm) => K (mI r) u) (fun u t => wld D ad cI cB A1 u t) A1
  | 2 => va_Ql (fun r (u : Mm) => K (mJ r) u) (fun u t => wld D ad cI cB A1 u t) A1
  | _ => va_Qr (S := Mm × Nat) (fun u => K (mO rt u.2) u.1 ∧ lyL[u.2]? = some (rt, 0) ∧ rt < 10) (fun u a t => a = ad u.2 ∧ wld D ad cI cB A1 u.1 t) A1
def preW (D : va_G) (ad : Nat → Nat) (cI cB : Nat) (As : List MV) (μ : Mm) (sz : Nat) : Array Value → State → Prop := va_Pc (As.map (tv ad 0)) (fun U => U.heap.size = sz ∧ wld D ad cI cB (fun _ => True) μ U)
/-- a method's contract, out of what it does -/
def Con (l : Launch) (y : MethodName) (bt : ByteArray) (mL : Nat) (ret : Option FieldType) (rm : Room) (kind rt : Nat) (sp : Sp) : Prop :=
  ∀ (D : va_G) (ad : Nat → Nat) (cI cB : Nat) (As : List MV) (μ : Mm) (K : MV → Mm → Prop) (sz : Nat), (∀ v ∈ As, wtv false v) → sp As μ K →
    Met l y (Cond.code y bt mL ret :: lw_g) rm (preW D ad cI cB As μ sz) (Qk kind rt K D ad cI cB (va_A (wl ad cI cB μ) sz)) 0 0 (va_A (wl ad cI cB μ) sz)
def nstL (own : String) (idx : Nat) : Prop := (own = RX3 ∧ idx = 40) ∨ (own = RX8 ∧ idx = 73)
def ClOK (l : Launch) (R : Room) (own : String) (idx : Nat) (ce : Ce) : Prop := ∃ (y : MethodName) (bt : ByteArray) (mL : Nat) (ret : Option FieldType) (rm : Room), Con l y bt mL ret rm ce.2.1 ce.2.2.1 ce.2.2.2.2 ∧
  (rm.cells = 0 ∧ rm.slots = 0 ∧ rm.frames + 1 ≤ R.frames ∧ 8 + (mL + 11) + rm.locals ≤ R.locals) ∧ (Cond.code y bt mL ret ∈ lw_g ∧ Cond.initialized y.cls ∈ lw_g) ∧ (y.cls ≠ "java/lang/invoke/MethodHandle" ∧ y.cls ≠ "java/lang/invoke/VarHandle") ∧
  match ce.2.2.2.1 with
  | 0 => (parseMethodDescriptor y.desc).map (fun d => d.parameters.length) = some ce.1 ∧ Cond.static y ∈ lw_g ∧ (Cond.methodLink own idx y ∈ lw_g ∨ (y = y_within ∧ nstL own idx))
  | t + 1 => (parseMethodDescriptor y.desc).map (fun d => d.parameters.length) = some (ce.1 - 1) ∧ 1 ≤ ce.1 ∧ Cond.instanceMethod y ∈ lw_g ∧ Cond.selects y.cls y y ∈ lw_g ∧ Cond.methodLink own idx y ∈ lw_g ∧ ∃ q, vwCl[t]? = some q ∧ q.1 = y.cls
theorem preW_blind {D : va_G} {ad : Nat → Nat} {cI cB : Nat} {As : List MV} {μ : Mm} {sz : Nat} : FrameBlind (preW D ad cI cB As μ sz) := by
  intro a U g mk q
  obtain ⟨q0, q1, qP, qK, qD, qN⟩ := q
  exact ⟨q0, q1, qP, va_K.moved (u := U) (U := U.calling g mk a) (Vm.Alike.refl U.vm) qK, qD, nst.same rfl qN⟩
theorem goodIn_g {w : Cond} (h : w ∈ lw_g) : GoodIn lw_g (w :: lw_g) := by
  intro x hx
  have hm : x ∈ lw_g := by
    rcases List.mem_cons.mp hx with e | e
    · rw [e]; exact h
    · exact e
  exact ⟨hm, good_g _ hm⟩
/-- the machine stands at pc with these locals, this stack, this memory, and ends well -/
def Wt (p : Program) (l : Launch) (e : Env) (R : Room) (s : State) (m : MethodId) (args : Array Value) (below : List Frame) (meth : Method) (c : Code) (cells slots : Nat) (Q : State → Prop) (D : va_G) (ad : Nat → Nat) (b cI cB nL : Nat) (sc lg : Bool) (A : Nat → Prop) (H0 : Heap) (pc : Nat) (L S : List MV) (μ : Mm) : Prop :=
  ∀ (H : Heap) (locs : List Loc) (ls : Array Slot), lR ad b nL lg ls L → (∀ v ∈ L, wtv sc v) → (∀ v ∈ S, wtv sc v) → va_P D vwCl (wl ad cI cB μ) H → va_S A H0 H locs → W p l e R s m args below meth c H locs cells slots Q (F0 m pc ls (S.map (tv ad b)))
def rtOK (rk rt : Nat) (i : Instr) (v : MV) : Prop := match rk with
  | 0 => i = .return_ ∧ v = mU
  | 1 => i = .ireturn ∧ ∃ x, v = mI x
  | 2 => i = .lreturn ∧ ∃ x, v = mJ x
  | 3 => i = .areturn ∧ ∃ c, v = mO rt c
  | 4 => i = .ireturn ∧ ∃ x, v = mI x ∧ zb x
  | _ => False
def rst (ad : Nat → Nat) (b : Nat) (v : MV) : List Value := match v with
  | .inr (.inr (.inr _)) => []
  | v => [tv ad b v]
theorem swt_tbl {x : Int32} {P : Nat → Prop} {d : Nat} : ∀ {J : List (Int32 × Nat)}, swt J d x P → (∃ (i : Nat) (q : Int32 × Nat), J[i]? = some q ∧ x = q.1 ∧ P q.2) ∨ ((∀ q ∈ J, x ≠ q.1) ∧ P d) := by
  intro J
  induction J with
  | nil => exact fun h => Or.inr ⟨fun q hq => absurd hq List.not_mem_nil, h⟩
  | cons q r ih =>
    intro h
    unfold swt at h
    split at h
    · rename_i hq
      exact Or.inl ⟨0, q, rfl, hq, h⟩
    · rename_i hq
      rcases ih h with ⟨i, q', h1, h2⟩ | ⟨h1, h2⟩
      · exact Or.inl ⟨i + 1, q', by simpa using h1, h2⟩
      · refine Or.inr ⟨fun q' hq' => ?_, h2⟩
        rcases List.mem_cons.mp hq' with e | e
        · rw [e]; exact hq
        · exact h1 q' e
theorem swt_lku {pc : Nat} {x : Int32} {P : Nat → Prop} {d : Nat} : ∀ {J : List (Int32 × Nat)}, swt J d x P → ∃ t, P t ∧ Op.lookupswitch.offset (J.map (fun q => (q.1.toInt, (q.2 : Int) - pc))) ((d : Int) - pc) x.toInt = (t : Int) - pc := by
  intro J
  induction J with
  | nil => exact fun h => ⟨d, h, rfl⟩
  | cons q r ih =>
    intro h
    unfold swt at h
    split at h
    · rename_i hq
      refine ⟨q.2, h, ?_⟩
      show (if q.1.toInt = x.toInt then _ else _) = _
      rw [if_pos (by rw [hq])]
    · rename_i hq
      obtain ⟨t, h1, h2⟩ := ih h
      refine ⟨t, h1, ?_⟩
      show (if q.1.toInt = x.toInt then _ else _) = _
      rw [if_neg (fun z => hq (Int32.toInt_inj.mp z).symm)]
      exact h2
theorem vi_in {i : Int32} {n : Nat} (h : vi i n) : vp_in i n := vp_in_iff.mpr h
theorem zb_narrow {x : Int32} (h : zb x) : narrow .boolean (.int x) = .int x := by
  rcases h with rfl | rfl <;> rfl
theorem zb_nar {x : Int32} (h : zb x) : vp_nar .boolean x = x := by
  rcases h with rfl | rfl <;> rfl
theorem zb_fits {x : Int32} (h : zb x) : fits .boolean (.int x) = true := by
  rcases h with rfl | rfl <;> rfl
theorem all_cons {α : Type} {p : α → Prop} {x : α} {l : List α} (h : p x) (hl : ∀ y ∈ l, p y) : ∀ y ∈ x :: l, p y := fun y hy => (List.mem_cons.mp hy).elim (fun e => e ▸ h) (hl y)
theorem all_tl {α : Type} {p : α → Prop} {x : α} {l : List α} (h : ∀ y ∈ x :: l, p y) : ∀ y ∈ l, p y := fun y hy => h y (List.mem_cons_of_mem _ hy)
theorem all_hd {α : Type} {p : α → Prop} {x : α} {l : List α} (h : ∀ y ∈ x :: l, p y) : p x := h x List.mem_cons_self
theorem ctS_sum {ad : Nat → Nat} {b : Nat} : ∀ (S : List MV), ((S.map (tv ad b)).map fun v => v.category).sum = ctS S := by
  intro S
  induction S with
  | nil => rfl
  | cons v S ih =>
    rw [List.map_cons, List.map_cons, List.sum_cons, ih]
    match v with
    | .inl x => rfl
    | .inr (.inl x) => rfl
    | .inr (.inr (.inl (k, t, c))) =>
      rw [tv_cat (fun x h => by cases h)]; rfl
    | .inr (.inr (.inr _)) => rfl
theorem nq_wt {ad : Nat → Nat} {b : Nat} {sc : Bool} : ∀ {S : List MV}, nq S = true → (∀ v ∈ S, wtv sc v) → ∀ v ∈ S, wtv false v ∧ tv ad b v = tv ad 0 v := by
  intro S
  induction S with
  | nil => intro _ _ v hv; cases hv
  | cons w S ih =>
    intro h hw v hv
    have hw1 := hw w List.mem_cons_self
    match w, h, hw1, hv with
    | .inl x, h, hw1, hv =>
      rcases List.mem_cons.mp hv with e | e
      · subst e; exact ⟨trivial, rfl⟩
      · exact ih h (all_tl hw) v e
    | .inr (.inl x), h, hw1, hv =>
      rcases List.mem_cons.mp hv with e | e
      · subst e; exact ⟨trivial, rfl⟩
      · exact ih h (all_tl hw) v e
    | .inr (.inr (.inr _)), h, hw1, hv =>
      rcases List.mem_cons.mp hv with e | e
      · subst e; exact ⟨trivial, rfl⟩
      · exact ih h (all_tl hw) v e
    | .inr (.inr (.inl (k, t, c))), h, hw1, hv =>
      unfold nq at h
      split at h
      · rename_i e; cases e
      · cases h
      · rename_i hne e
        cases e
        have hk : k ≠ 3 := fun z => by subst z; exact hne _ _ rfl
        rcases List.mem_cons.mp hv with e | e
        · subst e
          refine ⟨?_, ?_⟩
          · unfold wtv at hw1 ⊢
            simp only [if_neg hk] at hw1 ⊢
            exact hw1
          · unfold tv
            simp only [if_neg hk]
        · exact ih h (all_tl hw) v e
theorem cE_obj {ad : Nat → Nat} {cI cB : Nat} {μ : Mm} {c t : Nat} (h : t < 10) : cE ad cI cB μ c (t, 0) = .inr (t, fsO ad μ c t) := by
  unfold cE
  rw [if_neg (by simp only; omega), if_neg (by simp only; omega)]
  rfl
theorem tv_ref (ad : Nat → Nat) (b : Nat) (r : Nat × Nat × Nat) : ∃ z, tv ad b (.inr (.inr (.inl r))) = .ref z := by
  obtain ⟨k, t, c⟩ := r
  unfold tv
  simp only
  split <;> exact ⟨_, rfl⟩
theorem set_wt {sc : Bool} {L : List MV} {a : Nat} (h : ∀ w ∈ L, wtv sc w) : ∀ w ∈ L.set a mU, wtv sc w := by
  intro w hw
  rcases List.mem_or_eq_of_mem_set hw with e | e
  · exact h w e
  · rw [e]; trivial
theorem srt_ok {pc : Nat} : ∀ {J : List (Int32 × Nat)}, srt J = true → ((J.map (fun q => (q.1.toInt, (q.2 : Int) - pc))).zip ((J.map (fun q => (q.1.toInt, (q.2 : Int) - pc))).drop 1)).all (fun (a, next) => a.1 < next.1) = true
  | [], _ => rfl
  | [q], _ => rfl
  | q :: r :: J, h => by
    unfold srt at h
    simp only [Bool.and_eq_true, decide_eq_true_eq] at h
    have ih := srt_ok (pc := pc) h.2
    simp only [List.map_cons, List.drop_succ_cons, List.drop_zero, List.zip_cons_cons, List.all_cons, Bool.and_eq_true, decide_eq_true_eq] at ih ⊢
    exact ⟨h.1, ih⟩
theorem sid_big {own : String} {nL n : Nat} {q : Int32 × Int64 × Nat × Nat × Nat × List (Int32 × Nat)} : sid own nL (n + 70, q) = false := by
  obtain ⟨v, w, a, b, c, J⟩ := q
  unfold sid
  simp only
  have h8 : 8 ≤ (n + 70) / 8 := by omega
  split <;> first | rfl | (exfalso; omega) | (split <;> first | rfl | (exfalso; omega))
theorem fin4 {a : Nat} (h : a < 4) : ((Fin.ofNat 4 a : Fin 4) : Nat) = a := Nat.mod_eq_of_lt h

theorem cll_sound {p : Program} {l : Launch} {e : Env} {R : Room} {s : State} {m : MethodId} {args : Array Value} {below : List Frame} {meth : Method} {c : Code} {cells slots : Nat} {Q : State → Prop} {D : va_G} {ad : Nat → Nat} {b cI cB nL : Nat} {sc : Bool} {A : Nat → Prop} {H0 : Heap} {cc : ByteArray} {own : String} {E : Ev} {K : MV → Mm → Prop}
    (hx : p.tables.exec = Jvm.exec) (hb : c.code = cc) (hml : c.maxLocals = nL) (hown : s.vm.findClass own = some m.cls) (hts : ∀ w ∈ lw_g, w.before args s = true) (hK : va_K D vwCl (ty2 cI cB) s) (hN : nst s) (hA : ∀ q, H0.size ≤ q → A q) (hD : ∀ μ, va_D A (wl ad cI cB μ)) (hroom : cells ≤ R.cells ∧ slots ≤ R.slots)
    (hcl : ∀ a ce, lk E.2.1 a = some ce → ClOK l R own a ce) (hsc : sc = true → va_X b E.2.2.2.2.2.1 E.2.2.2.2.2.2 s H0 ∧ b < H0.size ∧ ¬ A b)
    {pc a : Nat} {L S : List MV} {μ : Mm} (hi : decode cc pc = .ok (.invokevirtual a, 3) ∨ decode cc pc = .ok (.invokestatic a, 3))
    (hv : ∀ ce, lk E.2.1 a = some ce → (decode cc pc = .ok (.invokevirtual a, 3) ↔ ce.2.2.2.1 ≠ 0))
    (h : cll (lk E.2.1 a) S μ (fun S μ => Wt p l e R s m args below meth c cells slots Q D ad b cI cB nL sc E.2.2.2.2.1 A H0 (pc + 3) L S μ)) : Wt p l e R s m args below meth c cells slots Q D ad b cI cB nL sc E.2.2.2.2.1 A H0 pc L S μ := by
  intro H locs ls hl hwL hwS hP hS
  cases hce : lk E.2.1 a with
  | none => rw [hce] at h; exact h.elim
  | some ce =>
    rw [hce] at h
    have hv := hv _ hce
    obtain ⟨y, bt, mL, ret, rm, hC, ⟨hrc, hrs, hfr, hlo⟩, ⟨hcd, hin⟩, hmh, hk⟩ := hcl _ _ hce
    obtain ⟨n, kind, rt, rc, sp⟩ := ce
    unfold cll at h
    simp only at h
    cases hbb : (Nat.ble n S.length && (Nat.ble (ctS (S.drop n)) 8 && (rck rc (S.take n).reverse && nq (S.take n)))) with
    | false => rw [hbb] at h; exact h.elim
    | true =>
      rw [hbb, cond_true] at h
      simp only [Bool.and_eq_true] at hbb
      obtain ⟨hn, hct, hrk, hnq⟩ := hbb
      have hn := Nat.le_of_ble_eq_true hn
      have hct := Nat.le_of_ble_eq_true hct
      have hq : ∀ v ∈ S.take n, wtv false v ∧ tv ad b v = tv ad 0 v := nq_wt (ad := ad) (b := b) hnq (fun v hv => hwS v (List.mem_of_mem_take hv))
      have hwA : ∀ v ∈ (S.take n).reverse, wtv false v := fun v hv => (hq v (List.mem_reverse.mp hv)).1
      have hwD : ∀ v ∈ S.drop n, wtv sc v := fun v hv => hwS v (List.mem_of_mem_drop hv)
      have hstk : S.map (tv ad b) = ((S.take n).reverse.map (tv ad 0)).reverse ++ (S.drop n).map (tv ad b) := by
        rw [List.map_reverse, List.reverse_reverse]
        conv => lhs; rw [← List.take_append_drop n S, List.map_append]
        congr 1
        exact List.map_congr_left (fun v hv => (hq v hv).2)
      have hln : (S.take n).reverse.length = n := by simp; omega
      have hcat : (((S.drop n).map (tv ad b)).map fun v => v.category).sum ≤ 8 := Nat.le_trans (Nat.le_of_eq (ctS_sum _)) hct
      have hM := hC D ad cI cB _ μ _ H.size hwA h
      have hF : ∀ q, va_A (wl ad cI cB μ) H.size q → A q := fun q hq => hq.elim (fun ⟨k, e, h⟩ => (hD μ).2 k _ h) (fun h => hA q (Nat.le_trans hS.1 h))
      have hPre : ∀ U : State, U.heap = H → s.WarmedH U.vm → preW D ad cI cB (S.take n).reverse μ H.size (((S.take n).reverse.map (tv ad 0)).toArray) U := fun U hU hW => ⟨rfl, by rw [hU], by rw [hU]; exact hP, va_K.moved hW.alike hK, (hD μ).weaken (fun _ _ _ _ => trivial), nst.warm hW hN⟩
      have hGI : GoodIn lw_g (Cond.code y bt mL ret :: lw_g) := goodIn_g hcd
      have hrun : va_Run p l e R s m args below meth c H locs cells slots 0 0 (F0 m pc ls (S.map (tv ad b))) ((S.drop n).map (tv ad b)) (Qk kind rt (fun v μ1 => knd kind rt v (S.drop n) (fun S' => Wt p l e R s m args below meth c cells slots Q D ad b cI cB nL sc E.2.2.2.2.1 A H0 (pc + 3) L S' μ1)) D ad cI cB (va_A (wl ad cI cB μ) H.size) (((S.take n).reverse.map (tv ad 0)).toArray)) (va_A (wl ad cI cB μ) H.size) := by
        cases rc with
        | zero =>
          obtain ⟨hpar, hst, hlink⟩ := hk
          have hdg : decode cc pc = .ok (.invokestatic a, 3) := hi.elim (fun z => absurd rfl (hv.mp z)) id
          rcases hlink with hlink | ⟨hyw, hnl⟩
          · exact va_runS (As := (S.take n).reverse.map (tv ad 0)) (rest := (S.drop n).map (tv ad b)) ⟨hx, hb, hml, hown, hts⟩ hM ⟨callB_of n hts hGI rfl hrc hrs (hts _ hin) (hts _ hlink) ⟨hmh.1, hmh.2, hpar⟩ ⟨hfr, hlo⟩, hts _ hst⟩ ⟨preW_blind, hPre⟩ rfl (by rw [List.length_map]; exact hln) hl.1.1 hstk (lv_room hcat) hdg hroom
          · have hnw : va_Nw (.methodLinkNest own a y RX9) s := by
              subst hyw
              rcases hnl with ⟨e1, e2⟩ | ⟨e1, e2⟩
              · subst e1; subst e2; exact hN.1
              · subst e1; subst e2; exact hN.2
            exact va_runSN (As := (S.take n).reverse.map (tv ad 0)) (rest := (S.drop n).map (tv ad b)) ⟨hx, hb, hml, hown, hts⟩ hM ⟨va_cnB n hts hGI rfl hrc hrs hnw (hts _ hin) ⟨hmh.1, hmh.2, hpar⟩ ⟨hfr, hlo⟩, hts _ hst, trivial⟩ ⟨preW_blind, hPre⟩ rfl (by rw [List.length_map]; exact hln) hl.1.1 hstk (lv_room hcat) hdg hroom
        | succ t =>
          obtain ⟨hpar, hn1, hinst, hsel, hlink, q, hq1, hq2⟩ := hk
          have hdg : decode cc pc = .ok (.invokevirtual a, 3) := hv.mpr (by simp)
          obtain ⟨c0, As, hAs⟩ : ∃ c0 As, (S.take n).reverse = mO t c0 :: As := by
            unfold rck at hrk
            split at hrk
            · rename_i e; exact absurd e (by simp)
            · rename_i t1 e
              cases e
              split at hrk
              · rename_i t' c' As' hh
                rw [hh, Nat.eq_of_beq_eq_true hrk]
                exact ⟨c', As', rfl⟩
              · cases hrk
          have hly : lyL[c0]? = some (t, 0) := (hwA (mO t c0) (by rw [hAs]; exact List.mem_cons_self)).1
          have htl : t < 10 := (hwA (mO t c0) (by rw [hAs]; exact List.mem_cons_self)).2
          have hrv := va_recv hK hP (ci := t) (q := q) (q0 := c0) hq1 ((wl_get hly).trans (by rw [cE_obj htl]))
          have hlA : As.length + 1 = n := by rw [← hln, hAs]; rfl
          have hmA : (S.take n).reverse.map (tv ad 0) = .ref (ad c0) :: As.map (tv ad 0) := by rw [hAs]; rfl
          rw [hmA]
          rw [hmA] at hPre
          refine va_runV (As := As.map (tv ad 0)) (b := ad c0) (rest := (S.drop n).map (tv ad b)) (C := y.cls) (n := n - 1) ⟨hx, hb, hml, hown, hts⟩ hM ⟨callB_of (n - 1) hts hGI rfl hrc hrs (hts _ hin) (hts _ hlink) ⟨hmh.1, hmh.2, hpar⟩ ⟨hfr, hlo⟩, hts _ hinst, hts _ hsel⟩ ⟨preW_blind, by rw [← hq2]; exact hrv, hPre⟩ rfl (by rw [List.length_map]; omega) hl.1.1 ?_ (lv_room hcat) hdg hroom
          show S.map (tv ad b) = _
          rw [hstk, hmA, List.reverse_cons, List.append_assoc]
          rfl
      have hAA : ∀ q, q < H.size → va_A (wl ad cI cB μ) H.size q → A q := fun q _ h => hF q h
      clear hM h hC
      match kind, hrun with
      | 0, hrun => exact va_callv (a := ((S.take n).reverse.map (tv ad 0)).toArray) hrun hS hAA hF (fun u t H1 locs1 ht hvm hw hB hz hk hS1 => hw H1 locs1 ls hl hwL hwD (by rw [← ht]; exact hB.1) hS1)
      | 1, hrun => exact va_calli (a := ((S.take n).reverse.map (tv ad 0)).toArray) hrun hS hAA hF (fun r u t H1 locs1 ht hvm hw hB hz hk hS1 => hw H1 locs1 ls hl hwL (all_cons trivial hwD) (by rw [← ht]; exact hB.1) hS1)
      | 2, hrun => exact va_calll (a := ((S.take n).reverse.map (tv ad 0)).toArray) hrun hS hAA hF (fun r u t H1 locs1 ht hvm hw hB hz hk hS1 => hw H1 locs1 ls hl hwL (all_cons trivial hwD) (by rw [← ht]; exact hB.1) hS1)
      | k + 3, hrun => exact va_callr (a := ((S.take n).reverse.map (tv ad 0)).toArray) hrun hS hAA hF (fun u z t H1 locs1 ht hvm hw hB hz hk hS1 => by
          obtain ⟨hz1, hB⟩ := hB
          subst hz1
          exact hw.1 H1 locs1 ls hl hwL (all_cons hw.2 hwD) (by rw [← ht]; exact hB.1) hS1)

set_option maxHeartbeats 4000000 in
theorem opx_sound {p : Program} {l : Launch} {e : Env} {R : Room} {s : State} {m : MethodId} {args : Array Value} {below : List Frame} {meth : Method} {c : Code} {cells slots : Nat} {Q : State → Prop} {D : va_G} {ad : Nat → Nat} {b cI cB nL : Nat} {sc : Bool} {A : Nat → Prop} {H0 : Heap} {cc : ByteArray} {own : String} {E : Ev} {K : MV → Mm → Prop}
    (hx : p.tables.exec = Jvm.exec) (hb : c.code = cc) (hml : c.maxLocals = nL) (hown : s.vm.findClass own = some m.cls) (hts : ∀ w ∈ lw_g, w.before args s = true) (hK : va_K D vwCl (ty2 cI cB) s) (hN : nst s) (hA : ∀ q, H0.size ≤ q → A q) (hD : ∀ μ, va_D A (wl ad cI cB μ)) (hroom : cells ≤ R.cells ∧ slots ≤ R.slots)
    (hcl : ∀ a ce, lk E.2.1 a = some ce → ClOK l R own a ce) (hsc : sc = true → va_X b E.2.2.2.2.2.1 E.2.2.2.2.2.2 s H0 ∧ b < H0.size ∧ ¬ A b)
    (hret : ∀ (v : MV) (μ : Mm) (H : Heap) (locs : List Loc) (ls : Array Slot) (pc : Nat) (i : Instr), decode cc pc = .ok (i, 1) → K v μ → va_P D vwCl (wl ad cI cB μ) H → va_S A H0 H locs → wtv sc v → rtOK E.2.2.1 E.2.2.2.1 i v → W p l e R s m args below meth c H locs cells slots Q (F0 m pc ls (rst ad b v)))
    {pc : Nat} {o : Ao} (hd : decode cc pc = .ok (dcc pc o)) (hs : sid own nL o = true) (hv : vck E o = true) (L S : List MV) (μ : Mm) : opx E K (Wt p l e R s m args below meth c cells slots Q D ad b cI cB nL sc E.2.2.2.2.1 A H0) pc L S μ o → Wt p l e R s m args below meth c cells slots Q D ad b cI cB nL sc E.2.2.2.2.1 A H0 pc L S μ := by
  obtain ⟨tag, v, w, a, b', c', J⟩ := o
  intro h
  match tag, h, hd, hs, hv with
  | 0, h, hd, hs, hv =>
    intro H locs ls hl hwL hwS hP hS
    exact lv_iconst hx hb hd (Int32.ofInt_toInt v) (h H locs ls hl hwL (all_cons trivial hwS) hP hS)
  | 1, h, hd, hs, hv =>
    intro H locs ls hl hwL hwS hP hS
    exact lv_bipush hx hb hd (of_decide_eq_true hs) (h H locs ls hl hwL (all_cons trivial hwS) hP hS)
  | 2, h, hd, hs, hv =>
    intro H locs ls hl hwL hwS hP hS
    exact lv_sipush hx hb hd (of_decide_eq_true hs) (h H locs ls hl hwL (all_cons trivial hwS) hP hS)
  | 3, h, hd, hs, hv =>
    intro H locs ls hl hwL hwS hP hS
    exact lv_ldc hx hb hown (hts _ (mem_g (of_decide_eq_true hs) rfl)) hd (h H locs ls hl hwL (all_cons trivial hwS) hP hS)
  | 4, h, hd, hs, hv =>
    intro H locs ls hl hwL hwS hP hS
    exact lv_ldcw hx hb hown (hts _ (mem_g (of_decide_eq_true hs) rfl)) hd (h H locs ls hl hwL (all_cons trivial hwS) hP hS)
  | 5, h, hd, hs, hv =>
    intro H locs ls hl hwL hwS hP hS
    have hw := of_decide_eq_true hs
    rcases hw with rfl | rfl
    · exact lv_lconst (n := 0) hx hb hd rfl (h H locs ls hl hwL (all_cons trivial hwS) hP hS)
    · exact lv_lconst (n := 1) hx hb hd rfl (h H locs ls hl hwL (all_cons trivial hwS) hP hS)
  | 6, h, hd, hs, hv =>
    intro H locs ls hl hwL hwS hP hS
    exact lv_ldc2 hx hb hown (hts _ (mem_g (of_decide_eq_true hs) rfl)) hd (h H locs ls hl hwL (all_cons trivial hwS) hP hS)
  | 7, h, hd, hs, hv =>
    obtain ⟨x, hr, h9⟩ := ldI_ex h
    clear h
    have h := h9
    intro H locs ls hl hwL hwS hP hS
    exact lv_iload_n hx hb hd (fin4 (of_decide_eq_true hs)) (hl.at hr (by simp)) (h H locs ls hl hwL (all_cons trivial hwS) hP hS)
  | 8, h, hd, hs, hv =>
    obtain ⟨x, hr, h9⟩ := ldI_ex h
    clear h
    have h := h9
    intro H locs ls hl hwL hwS hP hS
    exact lv_iload hx hb hd (hl.at hr (by simp)) (h H locs ls hl hwL (all_cons trivial hwS) hP hS)
  | 9, h, hd, hs, hv =>
    obtain ⟨r, hr, h9⟩ := ldR_ex h
    clear h
    have h := h9
    intro H locs ls hl hwL hwS hP hS
    have h1 := hl.at hr (by simp)
    obtain ⟨z, hz⟩ := tv_ref ad b r
    rw [hz] at h1
    refine lv_aload_n hx hb hd (fin4 (of_decide_eq_true hs)) h1 ?_
    have h2 := h H locs ls hl hwL (all_cons (hwL _ (List.mem_of_getElem? hr)) hwS) hP hS
    rw [List.map_cons, hz] at h2
    exact h2
  | 10, h, hd, hs, hv =>
    obtain ⟨r, hr, h9⟩ := ldR_ex h
    clear h
    have h := h9
    intro H locs ls hl hwL hwS hP hS
    have h1 := hl.at hr (by simp)
    obtain ⟨z, hz⟩ := tv_ref ad b r
    rw [hz] at h1
    refine lv_aload hx hb hd h1 ?_
    have h2 := h H locs ls hl hwL (all_cons (hwL _ (List.mem_of_getElem? hr)) hwS) hP hS
    rw [List.map_cons, hz] at h2
    exact h2
  | 11, h, hd, hs, hv =>
    obtain ⟨x, hr, h9⟩ := ldJ_ex h
    clear h
    have h := h9
    intro H locs ls hl hwL hwS hP hS
    exact lv_lload_n hx hb hd (fin4 (of_decide_eq_true hs)) (hl.at hr (by simp)) (h H locs ls hl hwL (all_cons trivial hwS) hP hS)
  | 12, h, hd, hs, hv =>
    obtain ⟨x, hr, h9⟩ := ldJ_ex h
    clear h
    have h := h9
    intro H locs ls hl hwL hwS hP hS
    exact lv_lload hx hb hd (hl.at hr (by simp)) (h H locs ls hl hwL (all_cons trivial hwS) hP hS)
  | 13, h, hd, hs, hv =>
    obtain ⟨x, S', rfl, h9⟩ := pI_ex h
    clear h
    have h := h9
    intro H locs ls hl hwL hwS hP hS
    exact lv_istore_n hx hb hd (fin4 (of_decide_eq_true hs).1) hl.1 (of_decide_eq_true hs).2 rfl (fun ls' hl' => h H locs ls' (hl.sto1 (of_decide_eq_true hs).2 (by simp) (by simp) hl') (sto_wt hwL trivial) (all_tl hwS) hP hS)
  | 14, h, hd, hs, hv =>
    obtain ⟨x, S', rfl, h9⟩ := pI_ex h
    clear h
    have h := h9
    intro H locs ls hl hwL hwS hP hS
    exact lv_istore hx hb hd hl.1 (of_decide_eq_true hs) rfl (fun ls' hl' => h H locs ls' (hl.sto1 (of_decide_eq_true hs) (by simp) (by simp) hl') (sto_wt hwL trivial) (all_tl hwS) hP hS)
  | 15, h, hd, hs, hv =>
    obtain ⟨r, S', rfl, h9⟩ := pR_ex h
    clear h
    have h := h9
    intro H locs ls hl hwL hwS hP hS
    obtain ⟨z, hz⟩ := tv_ref ad b r
    rw [List.map_cons, hz]
    exact lv_astore_n hx hb hd (fin4 (of_decide_eq_true hs).1) hl.1 (of_decide_eq_true hs).2 rfl (fun ls' hl' => h H locs ls' (hl.sto1 (of_decide_eq_true hs).2 (by simp) (by simp) (by rw [hz]; exact hl')) (sto_wt hwL (all_hd hwS)) (all_tl hwS) hP hS)
  | 16, h, hd, hs, hv =>
    obtain ⟨r, S', rfl, h9⟩ := pR_ex h
    clear h
    have h := h9
    intro H locs ls hl hwL hwS hP hS
    obtain ⟨z, hz⟩ := tv_ref ad b r
    rw [List.map_cons, hz]
    exact lv_astore hx hb hd hl.1 (of_decide_eq_true hs) rfl (fun ls' hl' => h H locs ls' (hl.sto1 (of_decide_eq_true hs) (by simp) (by simp) (by rw [hz]; exact hl')) (sto_wt hwL (all_hd hwS)) (all_tl hwS) hP hS)
  | 17, h, hd, hs, hv =>
    obtain ⟨x, S', rfl, h9⟩ := pJ_ex h
    clear h
    have h := h9
    intro H locs ls hl hwL hwS hP hS
    cases hlg : E.2.2.2.2.1 with
    | false => rw [hlg] at h; exact h.elim
    | true =>
      rw [hlg, cond_true] at h
      rw [hlg] at hl
      refine lv_lstore_n hx hb hd (fin4 (of_decide_eq_true hs).1) hl.1 (of_decide_eq_true hs).2 rfl (fun ls' hl' => ?_)
      have h0 := h H locs ls'
      exact h0 (hl.sto2 (of_decide_eq_true hs).2 hl') (set_wt (sto_wt hwL trivial)) (all_tl hwS) hP hS
  | 18, h, hd, hs, hv =>
    obtain ⟨x, S', rfl, h9⟩ := pJ_ex h
    clear h
    have h := h9
    intro H locs ls hl hwL hwS hP hS
    cases hlg : E.2.2.2.2.1 with
    | false => rw [hlg] at h; exact h.elim
    | true =>
      rw [hlg, cond_true] at h
      rw [hlg] at hl
      refine lv_lstore hx hb hd hl.1 (of_decide_eq_true hs) rfl (fun ls' hl' => ?_)
      have h0 := h H locs ls'
      exact h0 (hl.sto2 (of_decide_eq_true hs) hl') (set_wt (sto_wt hwL trivial)) (all_tl hwS) hP hS
  | 19, h, hd, hs, hv =>
    obtain ⟨y, x, S', rfl, h9⟩ := pII_ex h
    clear h
    have h := h9
    intro H locs ls hl hwL hwS hP hS
    exact lv_iadd hx hb hd (h H locs ls hl hwL (all_cons trivial (all_tl (all_tl hwS))) hP hS)
  | 20, h, hd, hs, hv =>
    obtain ⟨y, x, S', rfl, h9⟩ := pII_ex h
    clear h
    have h := h9
    intro H locs ls hl hwL hwS hP hS
    exact lv_isub hx hb hd (h H locs ls hl hwL (all_cons trivial (all_tl (all_tl hwS))) hP hS)
  | 21, h, hd, hs, hv =>
    obtain ⟨y, x, S', rfl, h9⟩ := pII_ex h
    clear h
    have h := h9
    intro H locs ls hl hwL hwS hP hS
    exact lv_imul hx hb hd (h H locs ls hl hwL (all_cons trivial (all_tl (all_tl hwS))) hP hS)
  | 25, h, hd, hs, hv =>
    obtain ⟨y, x, S', rfl, h9⟩ := pII_ex h
    clear h
    have h := h9
    intro H locs ls hl hwL hwS hP hS
    exact lv_iand hx hb hd (h H locs ls hl hwL (all_cons trivial (all_tl (all_tl hwS))) hP hS)
  | 26, h, hd, hs, hv =>
    obtain ⟨y, x, S', rfl, h9⟩ := pII_ex h
    clear h
    have h := h9
    intro H locs ls hl hwL hwS hP hS
    exact lv_ior hx hb hd (h H locs ls hl hwL (all_cons trivial (all_tl (all_tl hwS))) hP hS)
  | 27, h, hd, hs, hv =>
    obtain ⟨y, x, S', rfl, h9⟩ := pII_ex h
    clear h
    have h := h9
    intro H locs ls hl hwL hwS hP hS
    exact lv_ixor hx hb hd (h H locs ls hl hwL (all_cons trivial (all_tl (all_tl hwS))) hP hS)
  | 28, h, hd, hs, hv =>
    obtain ⟨y, x, S', rfl, h9⟩ := pII_ex h
    clear h
    have h := h9
    intro H locs ls hl hwL hwS hP hS
    exact lv_ishl hx hb hd (h H locs ls hl hwL (all_cons trivial (all_tl (all_tl hwS))) hP hS)
  | 29, h, hd, hs, hv =>
    obtain ⟨y, x, S', rfl, h9⟩ := pII_ex h
    clear h
    have h := h9
    intro H locs ls hl hwL hwS hP hS
    exact lv_ishr hx hb hd (h H locs ls hl hwL (all_cons trivial (all_tl (all_tl hwS))) hP hS)
  | 30, h, hd, hs, hv =>
    obtain ⟨y, x, S', rfl, h9⟩ := pII_ex h
    clear h
    have h := h9
    intro H locs ls hl hwL hwS hP hS
    exact lv_iushr hx hb hd rfl (h H locs ls hl hwL (all_cons trivial (all_tl (all_tl hwS))) hP hS)
  | 22, h, hd, hs, hv =>
    obtain ⟨y, x, S', rfl, h9⟩ := pII_ex h
    clear h
    have h := h9
    intro H locs ls hl hwL hwS hP hS
    exact lv_idiv hx hb hd h.1 (h.2 H locs ls hl hwL (all_cons trivial (all_tl (all_tl hwS))) hP hS)
  | 23, h, hd, hs, hv =>
    obtain ⟨y, x, S', rfl, h9⟩ := pII_ex h
    clear h
    have h := h9
    intro H locs ls hl hwL hwS hP hS
    exact lv_irem hx hb hd h.1 (h.2 H locs ls hl hwL (all_cons trivial (all_tl (all_tl hwS))) hP hS)
  | 31, h, hd, hs, hv =>
    obtain ⟨y, x, S', rfl, h9⟩ := pJJ_ex h
    clear h
    have h := h9
    intro H locs ls hl hwL hwS hP hS
    exact lv_ladd hx hb hd (h H locs ls hl hwL (all_cons trivial (all_tl (all_tl hwS))) hP hS)
  | 32, h, hd, hs, hv =>
    obtain ⟨y, x, S', rfl, h9⟩ := pJJ_ex h
    clear h
    have h := h9
    intro H locs ls hl hwL hwS hP hS
    exact lv_lmul hx hb hd (h H locs ls hl hwL (all_cons trivial (all_tl (all_tl hwS))) hP hS)
  | 33, h, hd, hs, hv =>
    obtain ⟨y, x, S', rfl, h9⟩ := pJJ_ex h
    clear h
    have h := h9
    intro H locs ls hl hwL hwS hP hS
    exact lv_ldiv hx hb hd h.1 (h.2 H locs ls hl hwL (all_cons trivial (all_tl (all_tl hwS))) hP hS)
  | 34, h, hd, hs, hv =>
    obtain ⟨y, x, S', rfl, h9⟩ := pJJ_ex h
    clear h
    have h := h9
    intro H locs ls hl hwL hwS hP hS
    exact lv_lrem hx hb hd h.1 (h.2 H locs ls hl hwL (all_cons trivial (all_tl (all_tl hwS))) hP hS)
  | 35, h, hd, hs, hv =>
    obtain ⟨y, x, S', rfl, h9⟩ := pJJ_ex h
    clear h
    have h := h9
    intro H locs ls hl hwL hwS hP hS
    exact W.lcmp hx hb hd (h H locs ls hl hwL (all_cons trivial (all_tl (all_tl hwS))) hP hS)
  | 24, h, hd, hs, hv =>
    obtain ⟨x, S', rfl, h9⟩ := pI_ex h
    clear h
    have h := h9
    intro H locs ls hl hwL hwS hP hS
    exact lv_ineg hx hb hd (h H locs ls hl hwL (all_cons trivial (all_tl hwS)) hP hS)
  | 36, h, hd, hs, hv =>
    obtain ⟨x, S', rfl, h9⟩ := pI_ex h
    clear h
    have h := h9
    intro H locs ls hl hwL hwS hP hS
    exact lv_i2l hx hb hd rfl (h H locs ls hl hwL (all_cons trivial (all_tl hwS)) hP hS)
  | 37, h, hd, hs, hv =>
    obtain ⟨v, S', rfl, hvJ, h9⟩ := pV_ex (S := S) (k := fun v S => Wt p l e R s m args below meth c cells slots Q D ad b cI cB nL sc E.2.2.2.2.1 A H0 (pc + 1) L (v :: v :: S) μ) h
    clear h
    have h := h9
    intro H locs ls hl hwL hwS hP hS
    exact lv_dup hx hb hd (tv_cat hvJ) (h H locs ls hl hwL (all_cons (all_hd hwS) hwS) hP hS)
  | 38, h, hd, hs, hv =>
    obtain ⟨x, r, S', rfl, h9⟩ := pIR_ex h
    clear h
    have h := h9
    intro H locs ls hl hwL hwS hP hS
    exact lv_dup2_11 hx hb hd rfl (tv_cat (fun x q => by cases q)) (h H locs ls hl hwL (all_cons trivial (all_cons (all_hd (all_tl hwS)) hwS)) hP hS)
  | 39, h, hd, hs, hv =>
    obtain ⟨x, hr, h9⟩ := ldI_ex h
    clear h
    have h := h9
    intro H locs ls hl hwL hwS hP hS
    obtain ⟨k, hk⟩ := List.getElem?_of_mem (toL_of (ad := ad) (b := b) L 0 a (mI x) hr (by simp))
    rw [Nat.zero_add] at hk
    exact lv_iinc hx hb hd hl.1 hk (by rw [Int32.ofInt_toInt]) (of_decide_eq_true hs) rfl (fun ls' hl' => h H locs ls' (hl.sto1 (of_decide_eq_true hs) (by simp) (by simp) hl') (sto_wt hwL trivial) hwS hP hS)
  | 40, h, hd, hs, hv =>
    intro H locs ls hl hwL hwS hP hS
    exact lv_goto hx hb hd (by omega) (h H locs ls hl hwL hwS hP hS)
  | 41, h, hd, hs, hv =>
    obtain ⟨x, S', rfl, h9⟩ := pI_ex h
    clear h
    have h := h9
    intro H locs ls hl hwL hwS hP hS
    exact lv_if_eq (tgt := a) hx hb hd (by omega) (fun q => by rw [if_pos q] at h; exact h H locs ls hl hwL (all_tl hwS) hP hS) (fun q => by rw [if_neg q] at h; exact h H locs ls hl hwL (all_tl hwS) hP hS)
  | 47, h, hd, hs, hv =>
    obtain ⟨y, x, S', rfl, h9⟩ := pII_ex h
    clear h
    have h := h9
    intro H locs ls hl hwL hwS hP hS
    exact lv_icmp_eq (tgt := a) hx hb hd (by omega) (fun q => by rw [if_pos q] at h; exact h H locs ls hl hwL (all_tl (all_tl hwS)) hP hS) (fun q => by rw [if_neg q] at h; exact h H locs ls hl hwL (all_tl (all_tl hwS)) hP hS)
  | 42, h, hd, hs, hv =>
    obtain ⟨x, S', rfl, h9⟩ := pI_ex h
    clear h
    have h := h9
    intro H locs ls hl hwL hwS hP hS
    exact lv_if_ne (tgt := a) hx hb hd (by omega) (fun q => by rw [if_neg q] at h; exact h H locs ls hl hwL (all_tl hwS) hP hS) (fun q => by rw [if_pos q] at h; exact h H locs ls hl hwL (all_tl hwS) hP hS)
  | 48, h, hd, hs, hv =>
    obtain ⟨y, x, S', rfl, h9⟩ := pII_ex h
    clear h
    have h := h9
    intro H locs ls hl hwL hwS hP hS
    exact lv_icmp_ne (tgt := a) hx hb hd (by omega) (fun q => by rw [if_neg q] at h; exact h H locs ls hl hwL (all_tl (all_tl hwS)) hP hS) (fun q => by rw [if_pos q] at h; exact h H locs ls hl hwL (all_tl (all_tl hwS)) hP hS)
  | 43, h, hd, hs, hv =>
    obtain ⟨x, S', rfl, h9⟩ := pI_ex h
    clear h
    have h := h9
    intro H locs ls hl hwL hwS hP hS
    exact lv_if_lt (tgt := a) hx hb hd (by omega) (fun q => by rw [if_pos q] at h; exact h H locs ls hl hwL (all_tl hwS) hP hS) (fun q => by rw [if_neg q] at h; exact h H locs ls hl hwL (all_tl hwS) hP hS)
  | 49, h, hd, hs, hv =>
    obtain ⟨y, x, S', rfl, h9⟩ := pII_ex h
    clear h
    have h := h9
    intro H locs ls hl hwL hwS hP hS
    exact lv_icmp_lt (tgt := a) hx hb hd (by omega) (fun q => by rw [if_pos q] at h; exact h H locs ls hl hwL (all_tl (all_tl hwS)) hP hS) (fun q => by rw [if_neg q] at h; exact h H locs ls hl hwL (all_tl (all_tl hwS)) hP hS)
  | 44, h, hd, hs, hv =>
    obtain ⟨x, S', rfl, h9⟩ := pI_ex h
    clear h
    have h := h9
    intro H locs ls hl hwL hwS hP hS
    exact lv_if_ge (tgt := a) hx hb hd (by omega) (fun q => by rw [if_pos q] at h; exact h H locs ls hl hwL (all_tl hwS) hP hS) (fun q => by rw [if_neg q] at h; exact h H locs ls hl hwL (all_tl hwS) hP hS)
  | 50, h, hd, hs, hv =>
    obtain ⟨y, x, S', rfl, h9⟩ := pII_ex h
    clear h
    have h := h9
    intro H locs ls hl hwL hwS hP hS
    exact lv_icmp_ge (tgt := a) hx hb hd (by omega) (fun q => by rw [if_pos q] at h; exact h H locs ls hl hwL (all_tl (all_tl hwS)) hP hS) (fun q => by rw [if_neg q] at h; exact h H locs ls hl hwL (all_tl (all_tl hwS)) hP hS)
  | 45, h, hd, hs, hv =>
    obtain ⟨x, S', rfl, h9⟩ := pI_ex h
    clear h
    have h := h9
    intro H locs ls hl hwL hwS hP hS
    exact lv_if_gt (tgt := a) hx hb hd (by omega) (fun q => by rw [if_pos q] at h; exact h H locs ls hl hwL (all_tl hwS) hP hS) (fun q => by rw [if_neg q] at h; exact h H locs ls hl hwL (all_tl hwS) hP hS)
  | 51, h, hd, hs, hv =>
    obtain ⟨y, x, S', rfl, h9⟩ := pII_ex h
    clear h
    have h := h9
    intro H locs ls hl hwL hwS hP hS
    exact lv_icmp_gt (tgt := a) hx hb hd (by omega) (fun q => by rw [if_pos q] at h; exact h H locs ls hl hwL (all_tl (all_tl hwS)) hP hS) (fun q => by rw [if_neg q] at h; exact h H locs ls hl hwL (all_tl (all_tl hwS)) hP hS)
  | 46, h, hd, hs, hv =>
    obtain ⟨x, S', rfl, h9⟩ := pI_ex h
    clear h
    have h := h9
    intro H locs ls hl hwL hwS hP hS
    exact lv_if_le (tgt := a) hx hb hd (by omega) (fun q => by rw [if_pos q] at h; exact h H locs ls hl hwL (all_tl hwS) hP hS) (fun q => by rw [if_neg q] at h; exact h H locs ls hl hwL (all_tl hwS) hP hS)
  | 52, h, hd, hs, hv =>
    obtain ⟨y, x, S', rfl, h9⟩ := pII_ex h
    clear h
    have h := h9
    intro H locs ls hl hwL hwS hP hS
    exact lv_icmp_le (tgt := a) hx hb hd (by omega) (fun q => by rw [if_pos q] at h; exact h H locs ls hl hwL (all_tl (all_tl hwS)) hP hS) (fun q => by rw [if_neg q] at h; exact h H locs ls hl hwL (all_tl (all_tl hwS)) hP hS)
  | 53, h, hd, hs, hv =>
    obtain ⟨r, S', rfl, h9⟩ := pR_ex h
    clear h
    have h := h9
    intro H locs ls hl hwL hwS hP hS
    obtain ⟨z, hz⟩ := tv_ref ad b r
    rw [List.map_cons, hz]
    exact lv_ifnull hx hb hd (h H locs ls hl hwL (all_tl hwS) hP hS)
  | 54, h, hd, hs, hv =>
    obtain ⟨r, S', rfl, h9⟩ := pR_ex h
    clear h
    have h := h9
    intro H locs ls hl hwL hwS hP hS
    obtain ⟨z, hz⟩ := tv_ref ad b r
    rw [List.map_cons, hz]
    exact lv_ifnonnull hx hb hd (by omega) (h H locs ls hl hwL (all_tl hwS) hP hS)
  | 55, h, hd, hs, hv =>
    obtain ⟨t, c0, S', rfl, h9⟩ := pO_ex h
    have hs : sfld own a b' c' = true := hs
    cases ht : Nat.beq t (b' / 32) with
    | false => rw [ht] at h9; exact h9.elim
    | true =>
      rw [ht, cond_true] at h9
      have ht := Nat.eq_of_beq_eq_true ht
      subst ht
      obtain ⟨q, hq, hk, hw⟩ := sfld_ex hs
      obtain ⟨ty0, hin, hty, hnm, hlen, hknd⟩ := cls_ok _ _ hq
      have hlink := hts _ (mem_g hw rfl)
      intro H locs ls hl hwL hwS hP hS
      obtain ⟨hly, htl⟩ : lyL[c0]? = some (b' / 32, 0) ∧ b' / 32 < 10 := hwS (mO (b' / 32) c0) (by simp)
      have h1 := h9 H locs ls hl hwL (all_cons (lay_wt hly htl (by rw [hlen]; exact hk)) (all_tl hwS)) hP hS
      rw [List.map_cons, tv_mF] at h1
      exact va_get hx hb hts hin hown hK hP c0 ((wl_get hly).trans (by rw [cE_obj htl])) hq (b' % 32) hk hlink (fun _ h9 => h9) (fs_get (by rw [hlen]; exact hk)) hd h1
  | 56, h, hd, hs, hv =>
    obtain ⟨x, t, c0, S', rfl, h9⟩ := pIO_ex h
    have hs : sfld own a b' c' = true := hs
    cases ht : Nat.beq t (b' / 32) with
    | false => rw [ht] at h9; exact h9.elim
    | true =>
      rw [ht, cond_true] at h9
      have ht := Nat.eq_of_beq_eq_true ht
      subst ht
      obtain ⟨q, hq, hk, hw⟩ := sfld_ex hs
      obtain ⟨ty0, hin, hty, hnm, hlen, hknd⟩ := cls_ok _ _ hq
      have hlink := hts _ (mem_g hw rfl)
      intro H locs ls hl hwL hwS hP hS
      obtain ⟨hly, htl⟩ : lyL[c0]? = some (b' / 32, 0) ∧ b' / 32 < 10 := hwS (mO (b' / 32) c0) (by simp)
      have hge := (wl_get (ad := ad) (cI := cI) (cB := cB) (μ := μ) hly).trans (by rw [cE_obj htl])
      have hset : ∀ hk01 : (fo (b' / 32) (b' % 32)).1 = 0 ∨ (fo (b' / 32) (b' % 32)).1 = 1, (wl ad cI cB μ).set c0 (ad c0, .inr (b' / 32, (fsO ad μ c0 (b' / 32)).set (b' % 32) (.int x))) = wl ad cI cB (mS μ c0 (b' % 32) x) := fun hk01 => wl_set hly (by rw [cE_obj htl, fs_set (by rw [hlen]; exact hk) hk01])
      have hfl : b' % 32 < (fsO ad μ c0 (b' / 32)).length := by unfold fsO; rw [List.length_mapIdx, hlen]; exact hk
      rcases ptF_ex h9 with ⟨e0, h8⟩ | ⟨e0, hz, h8⟩
      · obtain ⟨ht0, hf0⟩ := (hknd _ hk).1 e0
        exact va_put hx hb hts hin ty0 hty hnm hown hK hP (hD μ) hS c0 hge hq (b' % 32) hk hlink (fun _ h9 => h9) hf0 (v := .int x) (ty := .int) (by rw [hty _ hk, ht0]) rfl rfl hfl hd (fun H1 locs1 hP1 _ hS1 => h8 H1 locs1 ls hl hwL (all_tl (all_tl hwS)) (by rw [hset (Or.inl e0)] at hP1; exact hP1) hS1)
      · obtain ⟨ht0, hf0⟩ := (hknd _ hk).2 e0
        exact va_put hx hb hts hin ty0 hty hnm hown hK hP (hD μ) hS c0 hge hq (b' % 32) hk hlink (fun _ h9 => h9) hf0 (v := .int x) (ty := .boolean) (by rw [hty _ hk, ht0]) (zb_narrow hz) (zb_fits hz) hfl hd (fun H1 locs1 hP1 _ hS1 => h8 H1 locs1 ls hl hwL (all_tl (all_tl hwS)) (by rw [hset (Or.inr e0)] at hP1; exact hP1) hS1)
  | 57, h, hd, hs, hv =>
    rcases pIA_ex h with ⟨i, n, c0, S', rfl, h9⟩ | ⟨i, z1, z2, S', rfl, h9⟩
    · clear h
      have h := h9
      intro H locs ls hl hwL hwS hP hS
      have hly : lyL[c0]? = some (20, n) := hwS (mA n c0) (by simp)
      exact va_iald hx hb hK hP c0 0 (wl_get hly) rfl (vi_in h.1) hd (h.2 H locs ls hl hwL (all_cons trivial (all_tl (all_tl hwS))) hP hS)
    · clear h
      have h := h9
      intro H locs ls hl hwL hwS hP hS
      have hz : sc = true := hwS (mR 3 z1 z2) (by simp)
      obtain ⟨hX, hbl, hbA⟩ := hsc hz
      exact va_sld hx hb hX hbl hbA hS (vi_in h.1) hd (h.2 H locs ls hl hwL (all_cons trivial (all_tl (all_tl hwS))) hP hS)
  | 58, h, hd, hs, hv =>
    obtain ⟨x, i, n, c0, S', rfl, h9⟩ := pIIA_ex h
    clear h
    have h := h9
    intro H locs ls hl hwL hwS hP hS
    have hly : lyL[c0]? = some (20, n) := hwS (mA n c0) (by simp)
    exact va_iast hx hb hK hP (hD μ) hS c0 0 (wl_get hly) rfl (vi_in h.1) hd (fun H1 locs1 hP1 _ hS1 => h.2 H1 locs1 ls hl hwL (all_tl (all_tl (all_tl hwS))) (by rw [wl_set (x := x) (k := i.toNatClampNeg) hly (by rw [upd_mS]; rfl)] at hP1; exact hP1) hS1)
  | 59, h, hd, hs, hv =>
    obtain ⟨i, n, c0, S', rfl, h9⟩ := pIZ_ex h
    clear h
    have h := h9
    intro H locs ls hl hwL hwS hP hS
    have hly : lyL[c0]? = some (21, n) := (show 2 = 2 ∧ lyL[c0]? = some (21, n) from hwS (mZ n c0) (by simp)).2
    exact va_zald hx hb hK hP c0 1 (wl_get hly) rfl (vi_in h.1) hd (h.2 H locs ls hl hwL (all_cons trivial (all_tl (all_tl hwS))) hP hS)
  | 60, h, hd, hs, hv =>
    obtain ⟨x, i, n, c0, S', rfl, h9⟩ := pIIZ_ex h
    clear h
    have h := h9
    intro H locs ls hl hwL hwS hP hS
    have hly : lyL[c0]? = some (21, n) := (show 2 = 2 ∧ lyL[c0]? = some (21, n) from hwS (mZ n c0) (by simp)).2
    exact va_zast hx hb hK hP (hD μ) hS c0 1 (wl_get hly) rfl (vi_in h.1.2) hd (fun H1 locs1 hP1 _ hS1 => h.2 H1 locs1 ls hl hwL (all_tl (all_tl (all_tl hwS))) (by rw [zb_nar h.1.1, wl_set (x := x) (k := i.toNatClampNeg) hly (by rw [upd_mS]; rfl)] at hP1; exact hP1) hS1)
  | 61, h, hd, hs, hv =>
    rcases pA_ex h with ⟨n, c0, S', rfl, h9⟩ | ⟨z1, z2, S', rfl, h9⟩
    · clear h
      have h := h9
      intro H locs ls hl hwL hwS hP hS
      have hly : lyL[c0]? = some (20, n) := hwS (mA n c0) (by simp)
      exact va_alen hx hb hK hP c0 0 (wl_get hly) (ty := .int) rfl (v := nI n) rfl hd (h H locs ls hl hwL (all_cons trivial (all_tl hwS)) hP hS)
    · clear h
      have h := h9
      intro H locs ls hl hwL hwS hP hS
      have hz : sc = true := hwS (mR 3 z1 z2) (by simp)
      obtain ⟨hX, hbl, hbA⟩ := hsc hz
      exact va_slen hx hb hX hbl hbA hS hd (h H locs ls hl hwL (all_cons trivial (all_tl hwS)) hP hS)
  | 62, h, hd, hs, hv =>
    exact cll_sound (K := K) hx hb hml hown hts hK hN hA hD hroom hcl hsc (Or.inl hd) (fun ce hce => ⟨fun _ => vck_v hv hce, fun _ => hd⟩) h
  | 63, h, hd, hs, hv =>
    exact cll_sound (K := K) hx hb hml hown hts hK hN hA hD hroom hcl hsc (Or.inr hd) (fun ce hce => ⟨fun z => (by rw [show decode cc pc = .ok (.invokestatic a, 3) from hd] at z; cases z), fun z => absurd (vck_s hv hce) z⟩) h
  | 64, h, hd, hs, hv =>
    obtain ⟨x, rfl, h9⟩ := rI_ex h
    rcases h9 with ⟨e, h⟩ | ⟨e, h⟩
    · intro H locs ls hl hwL hwS hP hS
      exact hret (mI x) μ H locs ls pc _ hd h hP hS trivial (by rw [e]; exact ⟨rfl, x, rfl⟩)
    · intro H locs ls hl hwL hwS hP hS
      exact hret (mI x) μ H locs ls pc _ hd h.2 hP hS trivial (by rw [e]; exact ⟨rfl, x, rfl, h.1⟩)
  | 65, h, hd, hs, hv =>
    obtain ⟨x, rfl, e, h9⟩ := rJ_ex h
    clear h
    have h := h9
    intro H locs ls hl hwL hwS hP hS
    exact hret (mJ x) μ H locs ls pc _ hd h hP hS trivial (by rw [e]; exact ⟨rfl, x, rfl⟩)
  | 66, h, hd, hs, hv =>
    obtain ⟨rfl, e, h9⟩ := rV_ex h
    clear h
    have h := h9
    intro H locs ls hl hwL hwS hP hS
    exact hret mU μ H locs ls pc _ hd h hP hS trivial (by rw [e]; exact ⟨rfl, rfl⟩)
  | 67, h, hd, hs, hv =>
    obtain ⟨c0, rfl, e, h9⟩ := rO_ex h
    clear h
    have h := h9
    intro H locs ls hl hwL hwS hP hS
    exact hret (mO E.2.2.2.1 c0) μ H locs ls pc _ hd h hP hS (all_hd hwS) (by rw [e]; exact ⟨rfl, c0, rfl⟩)
  | 68, h, hd, hs, hv =>
    obtain ⟨x, S', rfl, h9⟩ := pI_ex h
    clear h
    have h := h9
    intro H locs ls hl hwL hwS hP hS
    have hkey : ∀ i, i < J.length → (J.getD i (0, 0)).1.toInt = (J.headD (0, 0)).1.toInt + i := fun i hi => of_decide_eq_true (List.all_eq_true.mp hs i (List.mem_range.mpr hi))
    rcases swt_tbl h with ⟨i, q, h1, h2, h3⟩ | ⟨h1, h3⟩
    · have hi : i < J.length := (List.getElem?_eq_some_iff.mp h1).1
      have e1 := hkey i hi
      rw [List.getD_eq_getElem?_getD, h1, Option.getD_some] at e1
      refine lv_tableIn (tgt := q.2) (off := (q.2 : Int) - pc) hx hb hd (by rw [h2, e1]; omega) (by rw [h2, e1]; omega) ?_ (by omega) (h3 H locs ls hl hwL (all_tl hwS) hP hS)
      rw [h2, e1, show ((J.headD (0, 0)).1.toInt + (i : Int) - (J.headD (0, 0)).1.toInt).toNat = i by omega]
      simp [h1]
    · refine lv_tableOut (tgt := a) hx hb hd ?_ (by omega) (h3 H locs ls hl hwL (all_tl hwS) hP hS)
      rcases Int.lt_or_le x.toInt (J.headD (0, 0)).1.toInt with z | z
      · exact Or.inl z
      · rcases Int.lt_or_le ((J.headD (0, 0)).1.toInt + J.length - 1) x.toInt with z2 | z2
        · exact Or.inr z2
        · exfalso
          have hi : (x.toInt - (J.headD (0, 0)).1.toInt).toNat < J.length := by omega
          have e1 := hkey _ hi
          have e2 := List.getElem?_eq_getElem hi
          rw [List.getD_eq_getElem?_getD, e2, Option.getD_some] at e1
          exact h1 _ (List.mem_of_getElem? e2) (Int32.toInt_inj.mp (by omega))
  | 69, h, hd, hs, hv =>
    obtain ⟨x, S', rfl, h9⟩ := pI_ex h
    clear h
    have h := h9
    intro H locs ls hl hwL hwS hP hS
    obtain ⟨t, h3, h4⟩ := swt_lku (pc := pc) h
    refine lv_lookup (tgt := t) hx hb hd ?_ h4 (by omega) (h3 H locs ls hl hwL (all_tl hwS) hP hS)
    exact srt_ok hs
  | n + 70, h, hd, hs, hv =>
    exact absurd hs (by simp [sid_big])
end
section
/-! ===== a method's contract, out of its table ===== -/
theorem en_len : ∀ (As : List MV) (n : Nat), ctS As ≤ n → (en As n).length = n
  | [], n, _ => by simp [en]
  | v :: vs, n, h => by
    match v, h with
    | .inl x, h =>
      have h : 1 + ctS vs ≤ n := h
      show (en vs (n - 1)).length + 1 = n
      rw [en_len vs (n - 1) (by omega)]; omega
    | .inr (.inl x), h =>
      have h : 2 + ctS vs ≤ n := h
      show (en vs (n - 2)).length + 1 + 1 = n
      rw [en_len vs (n - 2) (by omega)]; omega
    | .inr (.inr x), h =>
      have h : 1 + ctS vs ≤ n := h
      show (en vs (n - 1)).length + 1 = n
      rw [en_len vs (n - 1) (by omega)]; omega
theorem toL_rep {ad : Nat → Nat} {b : Nat} : ∀ (n i : Nat), toL ad b i (List.replicate n mU) = []
  | 0, _ => rfl
  | n + 1, i => by
    rw [List.replicate_succ]
    exact toL_rep n (i + 1)
theorem en_args {ad : Nat → Nat} {b : Nat} : ∀ (As : List MV) (n i : Nat) (q : Nat × Value), q ∈ toL ad b i (en As n) → q ∈ lv_args i (As.map (tv ad b))
  | [], n, i, q, h => by
    rw [show en [] n = List.replicate n mU from rfl, toL_rep] at h
    cases h
  | v :: vs, n, i, q, h => by
    match v, h with
    | .inl x, h =>
      rcases List.mem_cons.mp (show q ∈ (i, Value.int x) :: toL ad b (i + 1) (en vs (n - 1)) from h) with e | e
      · rw [e]; exact List.mem_cons_self
      · exact List.mem_cons_of_mem _ (en_args vs (n - 1) (i + 1) q e)
    | .inr (.inl x), h =>
      rcases List.mem_cons.mp (show q ∈ (i, Value.long x) :: toL ad b (i + 2) (en vs (n - 2)) from h) with e | e
      · rw [e]; exact List.mem_cons_self
      · exact List.mem_cons_of_mem _ (en_args vs (n - 2) (i + 2) q e)
    | .inr (.inr (.inl (k, t, c))), h =>
      have hc : (tv ad b (mR k t c)).category = 1 := tv_cat (fun x q => by cases q)
      have e1 : lv_args i ((mR k t c :: vs).map (tv ad b)) = (i, tv ad b (mR k t c)) :: lv_args (i + 1) (vs.map (tv ad b)) := by
        show (i, tv ad b (mR k t c)) :: lv_args (if (tv ad b (mR k t c)).category = 2 then i + 2 else i + 1) _ = _
        rw [if_neg (by omega)]
      rw [e1]
      rcases List.mem_cons.mp (show q ∈ (i, tv ad b (mR k t c)) :: toL ad b (i + 1) (en vs (n - 1)) from h) with e | e
      · rw [e]; exact List.mem_cons_self
      · exact List.mem_cons_of_mem _ (en_args vs (n - 1) (i + 1) q e)
    | .inr (.inr (.inr _)), h =>
      exact List.mem_cons_of_mem _ (en_args vs (n - 1) (i + 1) q (show q ∈ toL ad b (i + 1) (en vs (n - 1)) from h))
theorem en_noJ : ∀ (As : List MV) (n : Nat), nJ As = true → ∀ (i : Nat) (x : Int64), (en As n)[i]? ≠ some (mJ x)
  | [], n, _, i, x => by
    rw [show en [] n = List.replicate n mU from rfl, List.getElem?_replicate]
    split <;> simp
  | v :: vs, n, h, i, x => by
    match v, h with
    | .inl y, h =>
      cases i with
      | zero => intro e; cases Option.some.inj e
      | succ i => exact en_noJ vs (n - 1) h i x
    | .inr (.inr y), h =>
      cases i with
      | zero => intro e; cases Option.some.inj e
      | succ i => exact en_noJ vs (n - 1) h i x
theorem en_wt {sc : Bool} : ∀ (As : List MV) (n : Nat), (∀ v ∈ As, wtv sc v) → ∀ v ∈ en As n, wtv sc v
  | [], n, _, v, hv => by rw [List.eq_of_mem_replicate (show v ∈ List.replicate n mU from hv)]; trivial
  | w :: vs, n, h, v, hv => by
    match w, h, hv with
    | .inl y, h, hv =>
      rcases List.mem_cons.mp (show v ∈ mI y :: en vs (n - 1) from hv) with e | e
      · rw [e]; trivial
      · exact en_wt vs (n - 1) (all_tl h) v e
    | .inr (.inl y), h, hv =>
      rcases List.mem_cons.mp (show v ∈ mJ y :: mU :: en vs (n - 2) from hv) with e | e
      · rw [e]; trivial
      · rcases List.mem_cons.mp e with e | e
        · rw [e]; trivial
        · exact en_wt vs (n - 2) (all_tl h) v e
    | .inr (.inr y), h, hv =>
      rcases List.mem_cons.mp (show v ∈ .inr (.inr y) :: en vs (n - 1) from hv) with e | e
      · rw [e]; exact all_hd h
      · exact en_wt vs (n - 1) (all_tl h) v e
def rtk (rk : Nat) (ret : Option FieldType) : Bool := match rk with
  | 0 => decide (ret = none)
  | 1 => decide (ret = some .int)
  | 2 => decide (ret = some .long)
  | 3 => (match ret with
    | some (.object _) => true
    | _ => false)
  | 4 => decide (ret = some .boolean)
  | _ => false
/-- the kind of a call of a method that answers so -/
def kof (rk : Nat) : Nat := bif Nat.beq rk 4 then 1 else rk
def chkE (E : Ev) (cc : ByteArray) (own : String) (nL : Nat) (ret : Option FieldType) : Bool := E.1.all (fun q => chk cc own nL q && vck E q.2) && (rtk E.2.2.1 ret && decide (plainName own = true))
set_option maxHeartbeats 4000000 in
theorem con_of (l : Launch) (E : Ev) (y : MethodName) (cc : ByteArray) (nL : Nat) (ret : Option FieldType) (rm : Room) (hch : chkE E cc y.cls nL ret = true) (hcl : ∀ q ∈ E.2.1, ClOK l rm y.cls q.1 q.2) : Con l y cc nL ret rm (kof E.2.2.1) E.2.2.2.1 (spc E nL) := by
  intro D ad cI cB As μ0 K sz hwA hsp
  simp only [chkE, Bool.and_eq_true, decide_eq_true_eq, List.all_eq_true] at hch
  obtain ⟨hcode, hrt, hpl⟩ := hch
  unfold spc at hsp
  cases hbb : (Nat.ble (ctS As) nL && (E.2.2.2.2.1 || nJ As)) with
  | false => rw [hbb] at hsp; exact hsp.elim
  | true =>
    rw [hbb, cond_true] at hsp
    simp only [Bool.and_eq_true, Bool.or_eq_true] at hbb
    have hct := Nat.le_of_ble_eq_true hbb.1
    refine Met.ofW (cc := cc) (maxL := nL) (ret := ret) hpl rfl ?_
    intro p e s m args below meth c s₁ B hml hv
    obtain ⟨rfl, hsz, hP, hK, hD0, hN⟩ := hv
    have hx := B.exec
    have hb := B.bytes
    have hr := B.returns
    have hts0 := atoms_spec (ws := Cond.code y cc nL ret :: lw_g) B.pre
    have hts : ∀ w ∈ lw_g, w.before (As.map (tv ad 0)).toArray s = true := fun w hw => hts0 w (List.mem_cons_of_mem _ hw)
    have hown : s.vm.findClass y.cls = some m.cls := findClass_of_methodNamed B.named
    have hlocks := B.notSynchronized
    subst hsz
    have hDA : ∀ μ, va_D (va_A (wl ad cI cB μ0) s.heap.size) (wl ad cI cB μ) := fun μ => wl_D (hD0.self (sz := s.heap.size)) μ
    generalize hAe : va_A (wl ad cI cB μ0) s.heap.size = A at hDA ⊢
    have hA : ∀ q : Nat, s.heap.size ≤ q → A q := fun q h => by rw [← hAe]; exact Or.inr h
    have hl0 := lv_entry (As.map (tv ad 0)) (n := nL) (by
      have e : (lg_sl (As.map (tv ad 0))).length = ctS As := by
        clear hwA hsp hbb hct hP hK hD0 hN hx hb hr hts0 hts hown hlocks hDA hA hAe B hml hrt hcode hcl
        induction As with
        | nil => rfl
        | cons v vs ih =>
          have e2 : (lg_sl ((v :: vs).map (tv ad 0))).length = (tv ad 0 v).category + (lg_sl (vs.map (tv ad 0))).length := by
            unfold lg_sl
            rw [List.map_cons, List.flatMap_cons, List.length_append]
            congr 1
            rcases lv_cat (tv ad 0 v) with h | h <;> rw [h] <;> simp
          rw [e2, ih]
          have := ctS_sum (ad := ad) (b := 0) [v]
          match v with
          | .inl x => rfl
          | .inr (.inl x) => rfl
          | .inr (.inr (.inl (k, t, c))) => rw [tv_cat (fun x h => by cases h)]; rfl
          | .inr (.inr (.inr _)) => rfl
      rw [e]; exact hct)
    rw [lg_entry_eq]
    generalize (lg_sl (As.map (tv ad 0)) ++ List.replicate (nL - (lg_sl (As.map (tv ad 0))).length) Slot.unset).toArray = ls at hl0 ⊢
    have hl : lR ad 0 nL E.2.2.2.2.1 ls (en As nL) := ⟨⟨hl0.1, hl0.2.1, fun q hq => hl0.2.2 q (en_args As nL 0 q hq)⟩, en_len As nL hct, fun e i x => en_noJ As nL (hbb.2.resolve_left (by rw [e]; decide)) i x⟩
    have hret : ∀ (v : MV) (μ : Mm) (H : Heap) (locs : List Loc) (ls : Array Slot) (pc : Nat) (i : Instr), decode cc pc = .ok (i, 1) → K v μ → va_P D vwCl (wl ad cI cB μ) H → va_S A s.heap H locs → wtv false v → rtOK E.2.2.1 E.2.2.2.1 i v → W p l e rm s m (As.map (tv ad 0)).toArray below meth c H locs 0 0 (MQ below (Qk (kof E.2.2.1) E.2.2.2.1 K D ad cI cB A) (As.map (tv ad 0)).toArray s 0 0 A) (F0 m pc ls (rst ad 0 v)) := by
      intro v μ H locs ls pc i hd hKv hPv hSv hwv hrk
      generalize hgr : E.2.2.1 = rk at hrk hrt ⊢
      generalize E.2.2.2.1 = rt at hrk ⊢
      have hwl : ∀ t : State, t.heap = H → s.WarmedH t.vm → wld D ad cI cB A μ t := fun t ht hW => ⟨by rw [ht]; exact hPv, va_K.moved hW.alike hK, hDA μ, nst.warm hW hN⟩
      match rk, hrk, hrt with
      | 0, ⟨hi, hve⟩, hrt =>
        subst hi; subst hve
        exact W.vret hx hb (hr.trans (of_decide_eq_true hrt)) (fun t ht hW => ⟨⟨μ, rfl, hKv, hwl t ht hW⟩, hSv.F ht⟩) hSv.2.2 hd
      | 1, ⟨hi, x, hve⟩, hrt =>
        subst hi; subst hve
        exact W.iret hx hb (hr.trans (of_decide_eq_true hrt)) (fun t ht hW => ⟨⟨x, μ, rfl, hKv, hwl t ht hW⟩, hSv.F ht⟩) hSv.2.2 hd
      | 2, ⟨hi, x, hve⟩, hrt =>
        subst hi; subst hve
        exact W.lret hx hb (hr.trans (of_decide_eq_true hrt)) (fun t ht hW => ⟨⟨x, μ, rfl, hKv, hwl t ht hW⟩, hSv.F ht⟩) hSv.2.2 hd
      | 3, ⟨hi, c0, hve⟩, hrt =>
        subst hi; subst hve
        obtain ⟨nm, hnm⟩ : ∃ nm, ret = some (.object nm) := by
          simp only [rtk] at hrt
          split at hrt
          · exact ⟨_, rfl⟩
          · cases hrt
        exact W.aret hx hb (hr.trans hnm) (Or.inl ⟨nm, rfl⟩) (Or.inr ⟨ad c0, rfl⟩) (fun t ht hW => ⟨⟨(μ, c0), ad c0, rfl, ⟨hKv, hwv⟩, rfl, hwl t ht hW⟩, hSv.F ht⟩) hSv.2.2 hd
      | 4, ⟨hi, x, hve, hz⟩, hrt =>
        subst hi; subst hve
        exact W.zret hx hb (hr.trans (of_decide_eq_true hrt)) (zb_narrow hz) (fun t ht hW => ⟨⟨x, μ, rfl, hKv, hwl t ht hW⟩, hSv.F ht⟩) hSv.2.2 hd
    refine hsp (Wt p l e rm s m (As.map (tv ad 0)).toArray below meth c 0 0 (MQ below (Qk (kof E.2.2.1) E.2.2.2.1 K D ad cI cB A) (As.map (tv ad 0)).toArray s 0 0 A) D ad 0 cI cB nL false E.2.2.2.2.1 A s.heap) ?_ s.heap [] ls hl (en_wt As nL hwA) (fun v hv => by cases hv) hP va_S.rf
    intro pc L S μ hst
    unfold stp at hst
    cases ho : lk E.1 pc with
    | none => rw [ho] at hst; exact hst.elim
    | some o =>
      rw [ho] at hst
      have hc := hcode _ (lk_mem ho)
      obtain ⟨hd, hs⟩ := chk_dec hc.1
      exact opx_sound hx hb hml hown hts hK hN hA hDA ⟨Nat.zero_le _, Nat.zero_le _⟩ (fun a ce hce => hcl _ (lk_mem hce)) (fun z => by cases z) hret hd hs hc.2 L S μ hst
end
