/-- a private method of a class that the tables say can be made, by its rows of tables_1 -/
def lw_okq (q : MethodName × Nat) : Prop := (q.1.cls ≠ "java/lang/invoke/MethodHandle" ∧ q.1.cls ≠ "java/lang/invoke/VarHandle") ∧ Cond.instantiable q.1.cls q.2 ∈ tables_1 ∧ Cond.privateMethod q.1 ∈ tables_1 ∧ Cond.instanceMethod q.1 ∈ tables_1
theorem lw_p0 : lw_okq (⟨"ActsPaid", "tried", "()LActsPaid$Stage;"⟩, 9) := ⟨⟨by decide +kernel, by decide +kernel⟩, List.mem_of_getElem? (i := 15) (by decide +kernel), List.mem_of_getElem? (i := 392) (by decide +kernel), List.mem_of_getElem? (i := 393) (by decide +kernel)⟩
theorem lw_p1 : lw_okq (⟨"ActsPaid", "imageOf", "(I)LActsPaid$Image;"⟩, 9) := ⟨⟨by decide +kernel, by decide +kernel⟩, List.mem_of_getElem? (i := 15) (by decide +kernel), List.mem_of_getElem? (i := 623) (by decide +kernel), List.mem_of_getElem? (i := 624) (by decide +kernel)⟩
theorem lw_p2 : lw_okq (⟨"ActsPaidModel", "plain", "()V"⟩, 27) := ⟨⟨by decide +kernel, by decide +kernel⟩, List.mem_of_getElem? (i := 635) (by decide +kernel), List.mem_of_getElem? (i := 641) (by decide +kernel), List.mem_of_getElem? (i := 642) (by decide +kernel)⟩
theorem lw_p3 : lw_okq (⟨"ActsPaidModel", "guestFault", "()I"⟩, 27) := ⟨⟨by decide +kernel, by decide +kernel⟩, List.mem_of_getElem? (i := 635) (by decide +kernel), List.mem_of_getElem? (i := 751) (by decide +kernel), List.mem_of_getElem? (i := 752) (by decide +kernel)⟩
theorem lw_p4 : lw_okq (⟨"ActsPaidModel", "orderFault", "()I"⟩, 27) := ⟨⟨by decide +kernel, by decide +kernel⟩, List.mem_of_getElem? (i := 635) (by decide +kernel), List.mem_of_getElem? (i := 755) (by decide +kernel), List.mem_of_getElem? (i := 756) (by decide +kernel)⟩
theorem lw_p5 : lw_okq (⟨"ActsPaidModel", "isAct", "(I)Z"⟩, 27) := ⟨⟨by decide +kernel, by decide +kernel⟩, List.mem_of_getElem? (i := 635) (by decide +kernel), List.mem_of_getElem? (i := 759) (by decide +kernel), List.mem_of_getElem? (i := 760) (by decide +kernel)⟩
theorem lw_p6 : lw_okq (⟨"ActsPaidModel", "comes", "(I)Z"⟩, 27) := ⟨⟨by decide +kernel, by decide +kernel⟩, List.mem_of_getElem? (i := 635) (by decide +kernel), List.mem_of_getElem? (i := 777) (by decide +kernel), List.mem_of_getElem? (i := 778) (by decide +kernel)⟩
theorem lw_p7 : lw_okq (⟨"ActsPaidModel", "leavesAt", "(I)I"⟩, 27) := ⟨⟨by decide +kernel, by decide +kernel⟩, List.mem_of_getElem? (i := 635) (by decide +kernel), List.mem_of_getElem? (i := 793) (by decide +kernel), List.mem_of_getElem? (i := 794) (by decide +kernel)⟩
theorem lw_p8 : lw_okq (⟨"ActsPaidModel", "faresOf", "(II)I"⟩, 27) := ⟨⟨by decide +kernel, by decide +kernel⟩, List.mem_of_getElem? (i := 635) (by decide +kernel), List.mem_of_getElem? (i := 797) (by decide +kernel), List.mem_of_getElem? (i := 798) (by decide +kernel)⟩
theorem lw_p9 : lw_okq (⟨"ActsPaidModel", "allTakings", "()I"⟩, 27) := ⟨⟨by decide +kernel, by decide +kernel⟩, List.mem_of_getElem? (i := 635) (by decide +kernel), List.mem_of_getElem? (i := 805) (by decide +kernel), List.mem_of_getElem? (i := 806) (by decide +kernel)⟩
theorem lw_p10 : lw_okq (⟨"ActsPaidModel", "paysOf", "(I)I"⟩, 27) := ⟨⟨by decide +kernel, by decide +kernel⟩, List.mem_of_getElem? (i := 635) (by decide +kernel), List.mem_of_getElem? (i := 809) (by decide +kernel), List.mem_of_getElem? (i := 810) (by decide +kernel)⟩
theorem lw_p11 : lw_okq (⟨"ActsPaidModel", "isAhead", "(II)Z"⟩, 27) := ⟨⟨by decide +kernel, by decide +kernel⟩, List.mem_of_getElem? (i := 635) (by decide +kernel), List.mem_of_getElem? (i := 825) (by decide +kernel), List.mem_of_getElem? (i := 826) (by decide +kernel)⟩
theorem lw_p12 : lw_okq (⟨"ActsPaidModel", "firstRow", "(I)V"⟩, 27) := ⟨⟨by decide +kernel, by decide +kernel⟩, List.mem_of_getElem? (i := 635) (by decide +kernel), List.mem_of_getElem? (i := 833) (by decide +kernel), List.mem_of_getElem? (i := 834) (by decide +kernel)⟩
theorem lw_p13 : lw_okq (⟨"ActsPaidModel", "keepsMust", "()Z"⟩, 27) := ⟨⟨by decide +kernel, by decide +kernel⟩, List.mem_of_getElem? (i := 635) (by decide +kernel), List.mem_of_getElem? (i := 837) (by decide +kernel), List.mem_of_getElem? (i := 838) (by decide +kernel)⟩
theorem lw_p14 : lw_okq (⟨"ActsPaidModel", "nextRow", "(I)Z"⟩, 27) := ⟨⟨by decide +kernel, by decide +kernel⟩, List.mem_of_getElem? (i := 635) (by decide +kernel), List.mem_of_getElem? (i := 841) (by decide +kernel), List.mem_of_getElem? (i := 842) (by decide +kernel)⟩
theorem lw_p15 : lw_okq (⟨"ActsPaidModel", "change", "(II)V"⟩, 27) := ⟨⟨by decide +kernel, by decide +kernel⟩, List.mem_of_getElem? (i := 635) (by decide +kernel), List.mem_of_getElem? (i := 845) (by decide +kernel), List.mem_of_getElem? (i := 846) (by decide +kernel)⟩
def lw_privs_1 : List (MethodName × Nat) := [(⟨"ActsPaid", "tried", "()LActsPaid$Stage;"⟩, 9), (⟨"ActsPaid", "imageOf", "(I)LActsPaid$Image;"⟩, 9), (⟨"ActsPaidModel", "plain", "()V"⟩, 27), (⟨"ActsPaidModel", "guestFault", "()I"⟩, 27), (⟨"ActsPaidModel", "orderFault", "()I"⟩, 27), (⟨"ActsPaidModel", "isAct", "(I)Z"⟩, 27), (⟨"ActsPaidModel", "comes", "(I)Z"⟩, 27), (⟨"ActsPaidModel", "leavesAt", "(I)I"⟩, 27), (⟨"ActsPaidModel", "faresOf", "(II)I"⟩, 27), (⟨"ActsPaidModel", "allTakings", "()I"⟩, 27), (⟨"ActsPaidModel", "paysOf", "(I)I"⟩, 27), (⟨"ActsPaidModel", "isAhead", "(II)Z"⟩, 27), (⟨"ActsPaidModel", "firstRow", "(I)V"⟩, 27), (⟨"ActsPaidModel", "keepsMust", "()Z"⟩, 27), (⟨"ActsPaidModel", "nextRow", "(I)Z"⟩, 27), (⟨"ActsPaidModel", "change", "(II)V"⟩, 27)]
theorem lw_r1 : ∀ q ∈ lw_privs_1, lw_okq q := List.forall_mem_cons.mpr ⟨lw_p0, List.forall_mem_cons.mpr ⟨lw_p1, List.forall_mem_cons.mpr ⟨lw_p2, List.forall_mem_cons.mpr ⟨lw_p3, List.forall_mem_cons.mpr ⟨lw_p4, List.forall_mem_cons.mpr ⟨lw_p5, List.forall_mem_cons.mpr ⟨lw_p6, List.forall_mem_cons.mpr ⟨lw_p7, List.forall_mem_cons.mpr ⟨lw_p8, List.forall_mem_cons.mpr ⟨lw_p9, List.forall_mem_cons.mpr ⟨lw_p10, List.forall_mem_cons.mpr ⟨lw_p11, List.forall_mem_cons.mpr ⟨lw_p12, List.forall_mem_cons.mpr ⟨lw_p13, List.forall_mem_cons.mpr ⟨lw_p14, List.forall_mem_cons.mpr ⟨lw_p15, fun _ h => absurd h List.not_mem_nil⟩⟩⟩⟩⟩⟩⟩⟩⟩⟩⟩⟩⟩⟩⟩⟩
theorem lw_p16 : lw_okq (⟨"ActsPaidModel", "raise", "(II)V"⟩, 27) := ⟨⟨by decide +kernel, by decide +kernel⟩, List.mem_of_getElem? (i := 635) (by decide +kernel), List.mem_of_getElem? (i := 853) (by decide +kernel), List.mem_of_getElem? (i := 854) (by decide +kernel)⟩
theorem lw_p17 : lw_okq (⟨"ActsPaidModel", "risen", "(I)I"⟩, 27) := ⟨⟨by decide +kernel, by decide +kernel⟩, List.mem_of_getElem? (i := 635) (by decide +kernel), List.mem_of_getElem? (i := 865) (by decide +kernel), List.mem_of_getElem? (i := 866) (by decide +kernel)⟩
theorem lw_p18 : lw_okq (⟨"ActsPaidModel", "keepsFriends", "(I)Z"⟩, 27) := ⟨⟨by decide +kernel, by decide +kernel⟩, List.mem_of_getElem? (i := 635) (by decide +kernel), List.mem_of_getElem? (i := 869) (by decide +kernel), List.mem_of_getElem? (i := 870) (by decide +kernel)⟩
theorem lw_p19 : lw_okq (⟨"ActsPaidModel", "goOver", "(I)V"⟩, 27) := ⟨⟨by decide +kernel, by decide +kernel⟩, List.mem_of_getElem? (i := 635) (by decide +kernel), List.mem_of_getElem? (i := 881) (by decide +kernel), List.mem_of_getElem? (i := 882) (by decide +kernel)⟩
theorem lw_p20 : lw_okq (⟨"ActsPaidModel", "takenBy", "(I)I"⟩, 27) := ⟨⟨by decide +kernel, by decide +kernel⟩, List.mem_of_getElem? (i := 635) (by decide +kernel), List.mem_of_getElem? (i := 890) (by decide +kernel), List.mem_of_getElem? (i := 891) (by decide +kernel)⟩
theorem lw_p21 : lw_okq (⟨"ActsPaidModel", "isSeen", "(I)Z"⟩, 27) := ⟨⟨by decide +kernel, by decide +kernel⟩, List.mem_of_getElem? (i := 635) (by decide +kernel), List.mem_of_getElem? (i := 910) (by decide +kernel), List.mem_of_getElem? (i := 911) (by decide +kernel)⟩
theorem lw_p22 : lw_okq (⟨"ActsPaidModel", "layPays", "()V"⟩, 27) := ⟨⟨by decide +kernel, by decide +kernel⟩, List.mem_of_getElem? (i := 635) (by decide +kernel), List.mem_of_getElem? (i := 919) (by decide +kernel), List.mem_of_getElem? (i := 920) (by decide +kernel)⟩
theorem lw_p23 : lw_okq (⟨"ActsPaidModel", "takenOf", "(I)I"⟩, 27) := ⟨⟨by decide +kernel, by decide +kernel⟩, List.mem_of_getElem? (i := 635) (by decide +kernel), List.mem_of_getElem? (i := 923) (by decide +kernel), List.mem_of_getElem? (i := 924) (by decide +kernel)⟩
def lw_privs_2 : List (MethodName × Nat) := [(⟨"ActsPaidModel", "raise", "(II)V"⟩, 27), (⟨"ActsPaidModel", "risen", "(I)I"⟩, 27), (⟨"ActsPaidModel", "keepsFriends", "(I)Z"⟩, 27), (⟨"ActsPaidModel", "goOver", "(I)V"⟩, 27), (⟨"ActsPaidModel", "takenBy", "(I)I"⟩, 27), (⟨"ActsPaidModel", "isSeen", "(I)Z"⟩, 27), (⟨"ActsPaidModel", "layPays", "()V"⟩, 27), (⟨"ActsPaidModel", "takenOf", "(I)I"⟩, 27)]
theorem lw_r2 : ∀ q ∈ lw_privs_2, lw_okq q := List.forall_mem_cons.mpr ⟨lw_p16, List.forall_mem_cons.mpr ⟨lw_p17, List.forall_mem_cons.mpr ⟨lw_p18, List.forall_mem_cons.mpr ⟨lw_p19, List.forall_mem_cons.mpr ⟨lw_p20, List.forall_mem_cons.mpr ⟨lw_p21, List.forall_mem_cons.mpr ⟨lw_p22, List.forall_mem_cons.mpr ⟨lw_p23, fun _ h => absurd h List.not_mem_nil⟩⟩⟩⟩⟩⟩⟩⟩
def lw_privs : List (MethodName × Nat) := lw_privs_1 ++ (lw_privs_2)
def lw_tbl : List Cond := k2_sels lw_privs ++ tables_1
theorem lw_privs_ok : ∀ q ∈ lw_privs, lw_okq q := by
  show ∀ q ∈ lw_privs_1 ++ (lw_privs_2), lw_okq q
  exact List.forall_mem_append.mpr ⟨lw_r1, lw_r2⟩

def RX0 : String := "ActsPaid$Chances"
def TX0 : u_T := fun k => match k with
  | _ => ("ActsPaid$Chances", "payments", "[I", true)
def tyX0 : Nat → FieldType := fun k => match k with
  | _ => .array .int
abbrev wsX00 : List Cond := u_ws RX0 TX0 1
theorem nmX0 : ∀ a, a < 1 → ∀ b, b < 1 → a ≠ b → (TX0 a).2.1 ≠ (TX0 b).2.1 := by decide +kernel
theorem tyX0_ok : ∀ k, k < 1 → parseFieldDescriptor (TX0 k).2.2.1 = some (tyX0 k) := by decide +kernel
def RX1 : String := "ActsPaid$Houses"
def TX1 : u_T := fun k => match k with
  | 0 => ("ActsPaid$Houses", "goesOver", "I", false)
  | 1 => ("ActsPaid$Houses", "goesHome", "I", false)
  | 2 => ("ActsPaid$Houses", "takenHere", "I", false)
  | 3 => ("ActsPaid$Houses", "takenThere", "I", false)
  | 4 => ("ActsPaid$Houses", "here", "[I", true)
  | _ => ("ActsPaid$Houses", "there", "[I", true)
def tyX1 : Nat → FieldType := fun k => match k with
  | 0 => .int
  | 1 => .int
  | 2 => .int
  | 3 => .int
  | 4 => .array .int
  | _ => .array .int
abbrev wsX10 : List Cond := u_ws RX1 TX1 6
theorem nmX1 : ∀ a, a < 6 → ∀ b, b < 6 → a ≠ b → (TX1 a).2.1 ≠ (TX1 b).2.1 := by decide +kernel
theorem tyX1_ok : ∀ k, k < 6 → parseFieldDescriptor (TX1 k).2.2.1 = some (tyX1 k) := by decide +kernel
def RX2 : String := "ActsPaid$Image"
def TX2 : u_T := fun k => match k with
  | 0 => ("ActsPaid$Image", "kept", "LActsPaid$Stage;", true)
  | _ => ("ActsPaid$Image", "taken", "Z", false)
def tyX2 : Nat → FieldType := fun k => match k with
  | 0 => .object "ActsPaid$Stage"
  | _ => .boolean
abbrev wsX20 : List Cond := u_ws RX2 TX2 2
theorem nmX2 : ∀ a, a < 2 → ∀ b, b < 2 → a ≠ b → (TX2 a).2.1 ≠ (TX2 b).2.1 := by decide +kernel
theorem tyX2_ok : ∀ k, k < 2 → parseFieldDescriptor (TX2 k).2.2.1 = some (tyX2 k) := by decide +kernel
def RX3 : String := "ActsPaid$Pad"
def TX3 : u_T := fun k => match k with
  | 0 => ("ActsPaid$Pad", "signs", "[I", true)
  | _ => ("ActsPaid$Pad", "count", "I", false)
def tyX3 : Nat → FieldType := fun k => match k with
  | 0 => .array .int
  | _ => .int
abbrev wsX30 : List Cond := u_ws RX3 TX3 2
theorem nmX3 : ∀ a, a < 2 → ∀ b, b < 2 → a ≠ b → (TX3 a).2.1 ≠ (TX3 b).2.1 := by decide +kernel
theorem tyX3_ok : ∀ k, k < 2 → parseFieldDescriptor (TX3 k).2.2.1 = some (tyX3 k) := by decide +kernel
def RX4 : String := "ActsPaid$Programme"
def TX4 : u_T := fun k => match k with
  | _ => ("ActsPaid$Programme", "best", "[I", true)
def tyX4 : Nat → FieldType := fun k => match k with
  | _ => .array .int
abbrev wsX40 : List Cond := u_ws RX4 TX4 1
theorem nmX4 : ∀ a, a < 1 → ∀ b, b < 1 → a ≠ b → (TX4 a).2.1 ≠ (TX4 b).2.1 := by decide +kernel
theorem tyX4_ok : ∀ k, k < 1 → parseFieldDescriptor (TX4 k).2.2.1 = some (tyX4 k) := by decide +kernel
def RX5 : String := "ActsPaid$Rows"
def TX5 : u_T := fun k => match k with
  | _ => ("", "", "", false)
def tyX5 : Nat → FieldType := fun k => match k with
  | _ => .int
abbrev wsX50 : List Cond := u_ws RX5 TX5 0
theorem nmX5 : ∀ a, a < 0 → ∀ b, b < 0 → a ≠ b → (TX5 a).2.1 ≠ (TX5 b).2.1 := by decide +kernel
theorem tyX5_ok : ∀ k, k < 0 → parseFieldDescriptor (TX5 k).2.2.1 = some (tyX5 k) := by decide +kernel
def RX6 : String := "ActsPaid$Seats"
def TX6 : u_T := fun k => match k with
  | 0 => ("ActsPaid$Seats", "fewest", "[I", true)
  | _ => ("ActsPaid$Seats", "later", "[I", true)
def tyX6 : Nat → FieldType := fun k => match k with
  | 0 => .array .int
  | _ => .array .int
abbrev wsX60 : List Cond := u_ws RX6 TX6 2
theorem nmX6 : ∀ a, a < 2 → ∀ b, b < 2 → a ≠ b → (TX6 a).2.1 ≠ (TX6 b).2.1 := by decide +kernel
theorem tyX6_ok : ∀ k, k < 2 → parseFieldDescriptor (TX6 k).2.2.1 = some (tyX6 k) := by decide +kernel
def RX7 : String := "ActsPaid$Sights"
def TX7 : u_T := fun k => match k with
  | 0 => ("ActsPaid$Sights", "count", "I", false)
  | 1 => ("ActsPaid$Sights", "guests", "[I", true)
  | 2 => ("ActsPaid$Sights", "behinds", "[I", true)
  | _ => ("ActsPaid$Sights", "bases", "[I", true)
def tyX7 : Nat → FieldType := fun k => match k with
  | 0 => .int
  | 1 => .array .int
  | 2 => .array .int
  | _ => .array .int
abbrev wsX70 : List Cond := u_ws RX7 TX7 4
theorem nmX7 : ∀ a, a < 4 → ∀ b, b < 4 → a ≠ b → (TX7 a).2.1 ≠ (TX7 b).2.1 := by decide +kernel
theorem tyX7_ok : ∀ k, k < 4 → parseFieldDescriptor (TX7 k).2.2.1 = some (tyX7 k) := by decide +kernel
def RX8 : String := "ActsPaid$Stage"
def TX8 : u_T := fun k => match k with
  | 0 => ("ActsPaid$Stage", "acts", "I", false)
  | 1 => ("ActsPaid$Stage", "base", "I", false)
  | 2 => ("ActsPaid$Stage", "step", "I", false)
  | 3 => ("ActsPaid$Stage", "law", "I", false)
  | 4 => ("ActsPaid$Stage", "baseThere", "I", false)
  | 5 => ("ActsPaid$Stage", "present", "I", false)
  | 6 => ("ActsPaid$Stage", "order", "[I", true)
  | 7 => ("ActsPaid$Stage", "worths", "[I", true)
  | 8 => ("ActsPaid$Stage", "worthsThere", "[I", true)
  | 9 => ("ActsPaid$Stage", "after", "[I", true)
  | 10 => ("ActsPaid$Stage", "friendsOf", "[I", true)
  | _ => ("ActsPaid$Stage", "sights", "LActsPaid$Sights;", true)
def tyX8 : Nat → FieldType := fun k => match k with
  | 0 => .int
  | 1 => .int
  | 2 => .int
  | 3 => .int
  | 4 => .int
  | 5 => .int
  | 6 => .array .int
  | 7 => .array .int
  | 8 => .array .int
  | 9 => .array .int
  | 10 => .array .int
  | _ => .object "ActsPaid$Sights"
abbrev wsX80 : List Cond := u_ws RX8 TX8 12
theorem nmX8 : ∀ a, a < 12 → ∀ b, b < 12 → a ≠ b → (TX8 a).2.1 ≠ (TX8 b).2.1 := by decide +kernel
theorem tyX8_ok : ∀ k, k < 12 → parseFieldDescriptor (TX8 k).2.2.1 = some (tyX8 k) := by decide +kernel
def RX9 : String := "ActsPaid"
def TX9 : u_T := fun k => match k with
  | 0 => ("ActsPaid", "pad", "LActsPaid$Pad;", true)
  | 1 => ("ActsPaid", "stage", "LActsPaid$Stage;", true)
  | 2 => ("ActsPaid", "trial", "LActsPaid$Stage;", true)
  | 3 => ("ActsPaid", "firstImage", "LActsPaid$Image;", true)
  | 4 => ("ActsPaid", "secondImage", "LActsPaid$Image;", true)
  | 5 => ("ActsPaid", "programme", "LActsPaid$Programme;", true)
  | 6 => ("ActsPaid", "seats", "LActsPaid$Seats;", true)
  | 7 => ("ActsPaid", "houses", "LActsPaid$Houses;", true)
  | _ => ("ActsPaid", "chances", "LActsPaid$Chances;", true)
def tyX9 : Nat → FieldType := fun k => match k with
  | 0 => .object "ActsPaid$Pad"
  | 1 => .object "ActsPaid$Stage"
  | 2 => .object "ActsPaid$Stage"
  | 3 => .object "ActsPaid$Image"
  | 4 => .object "ActsPaid$Image"
  | 5 => .object "ActsPaid$Programme"
  | 6 => .object "ActsPaid$Seats"
  | 7 => .object "ActsPaid$Houses"
  | _ => .object "ActsPaid$Chances"
abbrev wsX90 : List Cond := u_ws RX9 TX9 9
theorem nmX9 : ∀ a, a < 9 → ∀ b, b < 9 → a ≠ b → (TX9 a).2.1 ≠ (TX9 b).2.1 := by decide +kernel
theorem tyX9_ok : ∀ k, k < 9 → parseFieldDescriptor (TX9 k).2.2.1 = some (tyX9 k) := by decide +kernel
def RX10 : String := "ActsPaidModel"
def TX10 : u_T := fun k => match k with
  | 0 => ("ActsPaidModel", "acts", "I", false)
  | 1 => ("ActsPaidModel", "come", "I", false)
  | 2 => ("ActsPaidModel", "base", "I", false)
  | 3 => ("ActsPaidModel", "step", "I", false)
  | 4 => ("ActsPaidModel", "law", "I", false)
  | 5 => ("ActsPaidModel", "there", "I", false)
  | 6 => ("ActsPaidModel", "worth", "[I", true)
  | 7 => ("ActsPaidModel", "order", "[I", true)
  | 8 => ("ActsPaidModel", "behind", "[I", true)
  | 9 => ("ActsPaidModel", "others", "[I", true)
  | 10 => ("ActsPaidModel", "beside", "[I", true)
  | 11 => ("ActsPaidModel", "sights", "I", false)
  | 12 => ("ActsPaidModel", "sight", "[I", true)
  | 13 => ("ActsPaidModel", "signs", "I", false)
  | 14 => ("ActsPaidModel", "pad", "[I", true)
  | 15 => ("ActsPaidModel", "own", "I", false)
  | 16 => ("ActsPaidModel", "row", "[I", true)
  | 17 => ("ActsPaidModel", "kept", "[I", true)
  | 18 => ("ActsPaidModel", "best", "[I", true)
  | 19 => ("ActsPaidModel", "who", "[I", true)
  | 20 => ("ActsPaidModel", "end", "[I", true)
  | 21 => ("ActsPaidModel", "goesAt", "I", false)
  | 22 => ("ActsPaidModel", "endsAt", "I", false)
  | 23 => ("ActsPaidModel", "taken", "[I", true)
  | 24 => ("ActsPaidModel", "pays", "[I", true)
  | 25 => ("ActsPaidModel", "image", "[I", true)
  | _ => ("ActsPaidModel", "isKept", "[Z", true)
def tyX10 : Nat → FieldType := fun k => match k with
  | 0 => .int
  | 1 => .int
  | 2 => .int
  | 3 => .int
  | 4 => .int
  | 5 => .int
  | 6 => .array .int
  | 7 => .array .int
  | 8 => .array .int
  | 9 => .array .int
  | 10 => .array .int
  | 11 => .int
  | 12 => .array .int
  | 13 => .int
  | 14 => .array .int
  | 15 => .int
  | 16 => .array .int
  | 17 => .array .int
  | 18 => .array .int
  | 19 => .array .int
  | 20 => .array .int
  | 21 => .int
  | 22 => .int
  | 23 => .array .int
  | 24 => .array .int
  | 25 => .array .int
  | _ => .array .boolean
abbrev wsX100 : List Cond := u_ws RX10 TX10 27
theorem nmX10 : ∀ a, a < 27 → ∀ b, b < 27 → a ≠ b → (TX10 a).2.1 ≠ (TX10 b).2.1 := by decide +kernel
theorem tyX10_ok : ∀ k, k < 27 → parseFieldDescriptor (TX10 k).2.2.1 = some (tyX10 k) := by decide +kernel
def RL : String := "ActsPaidLaw"
abbrev vwCl : List vw_C := [(RX0, TX0, 1), (RX1, TX1, 6), (RX2, TX2, 2), (RX3, TX3, 2), (RX4, TX4, 1), (RX6, TX6, 2), (RX7, TX7, 4), (RX8, TX8, 12), (RX9, TX9, 9), (RX10, TX10, 27)]
