section
-- ===== PART A: goes FIRST, ahead of the names: the tables' words, and 'selects' of the private methods out of them =====
/-- a private method of a class that the tables say can be made, by its rows of tables_1 -/
def lw_okq (q : MethodName × Nat) : Prop := (q.1.cls ≠ "java/lang/invoke/MethodHandle" ∧ q.1.cls ≠ "java/lang/invoke/VarHandle") ∧ Cond.instantiable q.1.cls q.2 ∈ tables_1 ∧ Cond.privateMethod q.1 ∈ tables_1 ∧ Cond.instanceMethod q.1 ∈ tables_1
theorem lw_p0 : lw_okq (⟨"CardHouse$Text", "readLetter", "(LCardHouse$Pile;II)Z"⟩, 2) := ⟨⟨by decide +kernel, by decide +kernel⟩, List.mem_of_getElem? (i := 18) (by decide +kernel), List.mem_of_getElem? (i := 157) (by decide +kernel), List.mem_of_getElem? (i := 158) (by decide +kernel)⟩
theorem lw_p1 : lw_okq (⟨"CardHouse$Pile", "weigh", "()V"⟩, 5) := ⟨⟨by decide +kernel, by decide +kernel⟩, List.mem_of_getElem? (i := 33) (by decide +kernel), List.mem_of_getElem? (i := 225) (by decide +kernel), List.mem_of_getElem? (i := 226) (by decide +kernel)⟩
theorem lw_p2 : lw_okq (⟨"CardHouse$Pile", "drop", "(I)I"⟩, 5) := ⟨⟨by decide +kernel, by decide +kernel⟩, List.mem_of_getElem? (i := 33) (by decide +kernel), List.mem_of_getElem? (i := 242) (by decide +kernel), List.mem_of_getElem? (i := 243) (by decide +kernel)⟩
theorem lw_p3 : lw_okq (⟨"CardHouse", "cardsInDeck", "()I"⟩, 12) := ⟨⟨by decide +kernel, by decide +kernel⟩, List.mem_of_getElem? (i := 10) (by decide +kernel), List.mem_of_getElem? (i := 268) (by decide +kernel), List.mem_of_getElem? (i := 269) (by decide +kernel)⟩
theorem lw_p4 : lw_okq (⟨"CardHouse", "recordAct", "()V"⟩, 12) := ⟨⟨by decide +kernel, by decide +kernel⟩, List.mem_of_getElem? (i := 10) (by decide +kernel), List.mem_of_getElem? (i := 306) (by decide +kernel), List.mem_of_getElem? (i := 307) (by decide +kernel)⟩
theorem lw_p5 : lw_okq (⟨"CardHouse$Pile", "isTentOfLevel", "(II)Z"⟩, 5) := ⟨⟨by decide +kernel, by decide +kernel⟩, List.mem_of_getElem? (i := 33) (by decide +kernel), List.mem_of_getElem? (i := 347) (by decide +kernel), List.mem_of_getElem? (i := 348) (by decide +kernel)⟩
theorem lw_p6 : lw_okq (⟨"CardHouse", "canBeDone", "(I)Z"⟩, 12) := ⟨⟨by decide +kernel, by decide +kernel⟩, List.mem_of_getElem? (i := 10) (by decide +kernel), List.mem_of_getElem? (i := 409) (by decide +kernel), List.mem_of_getElem? (i := 410) (by decide +kernel)⟩
theorem lw_p7 : lw_okq (⟨"CardHouse", "gain", "(II)I"⟩, 12) := ⟨⟨by decide +kernel, by decide +kernel⟩, List.mem_of_getElem? (i := 10) (by decide +kernel), List.mem_of_getElem? (i := 475) (by decide +kernel), List.mem_of_getElem? (i := 476) (by decide +kernel)⟩
theorem lw_p8 : lw_okq (⟨"CardHouse$Contest", "isAtRest", "(I)Z"⟩, 2) := ⟨⟨by decide +kernel, by decide +kernel⟩, List.mem_of_getElem? (i := 83) (by decide +kernel), List.mem_of_getElem? (i := 487) (by decide +kernel), List.mem_of_getElem? (i := 488) (by decide +kernel)⟩
theorem lw_p9 : lw_okq (⟨"CardHouse", "passEvening", "(I)V"⟩, 12) := ⟨⟨by decide +kernel, by decide +kernel⟩, List.mem_of_getElem? (i := 10) (by decide +kernel), List.mem_of_getElem? (i := 513) (by decide +kernel), List.mem_of_getElem? (i := 514) (by decide +kernel)⟩
theorem lw_p10 : lw_okq (⟨"CardHouseModel", "readHouse", "()I"⟩, 26) := ⟨⟨by decide +kernel, by decide +kernel⟩, List.mem_of_getElem? (i := 528) (by decide +kernel), List.mem_of_getElem? (i := 630) (by decide +kernel), List.mem_of_getElem? (i := 631) (by decide +kernel)⟩
theorem lw_p11 : lw_okq (⟨"CardHouseModel", "readHead", "()Z"⟩, 26) := ⟨⟨by decide +kernel, by decide +kernel⟩, List.mem_of_getElem? (i := 528) (by decide +kernel), List.mem_of_getElem? (i := 634) (by decide +kernel), List.mem_of_getElem? (i := 635) (by decide +kernel)⟩
theorem lw_p12 : lw_okq (⟨"CardHouseModel", "figure", "(I)I"⟩, 26) := ⟨⟨by decide +kernel, by decide +kernel⟩, List.mem_of_getElem? (i := 528) (by decide +kernel), List.mem_of_getElem? (i := 638) (by decide +kernel), List.mem_of_getElem? (i := 639) (by decide +kernel)⟩
theorem lw_p13 : lw_okq (⟨"CardHouseModel", "readPiece", "()Z"⟩, 26) := ⟨⟨by decide +kernel, by decide +kernel⟩, List.mem_of_getElem? (i := 528) (by decide +kernel), List.mem_of_getElem? (i := 642) (by decide +kernel), List.mem_of_getElem? (i := 643) (by decide +kernel)⟩
theorem lw_p14 : lw_okq (⟨"CardHouseModel", "couldAny", "()Z"⟩, 26) := ⟨⟨by decide +kernel, by decide +kernel⟩, List.mem_of_getElem? (i := 528) (by decide +kernel), List.mem_of_getElem? (i := 646) (by decide +kernel), List.mem_of_getElem? (i := 647) (by decide +kernel)⟩
theorem lw_p15 : lw_okq (⟨"CardHouseModel", "couldCome", "(I)Z"⟩, 26) := ⟨⟨by decide +kernel, by decide +kernel⟩, List.mem_of_getElem? (i := 528) (by decide +kernel), List.mem_of_getElem? (i := 650) (by decide +kernel), List.mem_of_getElem? (i := 651) (by decide +kernel)⟩
def lw_privs_1 : List (MethodName × Nat) := [(⟨"CardHouse$Text", "readLetter", "(LCardHouse$Pile;II)Z"⟩, 2), (⟨"CardHouse$Pile", "weigh", "()V"⟩, 5), (⟨"CardHouse$Pile", "drop", "(I)I"⟩, 5), (⟨"CardHouse", "cardsInDeck", "()I"⟩, 12), (⟨"CardHouse", "recordAct", "()V"⟩, 12), (⟨"CardHouse$Pile", "isTentOfLevel", "(II)Z"⟩, 5), (⟨"CardHouse", "canBeDone", "(I)Z"⟩, 12), (⟨"CardHouse", "gain", "(II)I"⟩, 12), (⟨"CardHouse$Contest", "isAtRest", "(I)Z"⟩, 2), (⟨"CardHouse", "passEvening", "(I)V"⟩, 12), (⟨"CardHouseModel", "readHouse", "()I"⟩, 26), (⟨"CardHouseModel", "readHead", "()Z"⟩, 26), (⟨"CardHouseModel", "figure", "(I)I"⟩, 26), (⟨"CardHouseModel", "readPiece", "()Z"⟩, 26), (⟨"CardHouseModel", "couldAny", "()Z"⟩, 26), (⟨"CardHouseModel", "couldCome", "(I)Z"⟩, 26)]
theorem lw_r1 : ∀ q ∈ lw_privs_1, lw_okq q := List.forall_mem_cons.mpr ⟨lw_p0, List.forall_mem_cons.mpr ⟨lw_p1, List.forall_mem_cons.mpr ⟨lw_p2, List.forall_mem_cons.mpr ⟨lw_p3, List.forall_mem_cons.mpr ⟨lw_p4, List.forall_mem_cons.mpr ⟨lw_p5, List.forall_mem_cons.mpr ⟨lw_p6, List.forall_mem_cons.mpr ⟨lw_p7, List.forall_mem_cons.mpr ⟨lw_p8, List.forall_mem_cons.mpr ⟨lw_p9, List.forall_mem_cons.mpr ⟨lw_p10, List.forall_mem_cons.mpr ⟨lw_p11, List.forall_mem_cons.mpr ⟨lw_p12, List.forall_mem_cons.mpr ⟨lw_p13, List.forall_mem_cons.mpr ⟨lw_p14, List.forall_mem_cons.mpr ⟨lw_p15, fun _ h => absurd h List.not_mem_nil⟩⟩⟩⟩⟩⟩⟩⟩⟩⟩⟩⟩⟩⟩⟩⟩
theorem lw_p16 : lw_okq (⟨"CardHouseModel", "enough", "(II)Z"⟩, 26) := ⟨⟨by decide +kernel, by decide +kernel⟩, List.mem_of_getElem? (i := 528) (by decide +kernel), List.mem_of_getElem? (i := 660) (by decide +kernel), List.mem_of_getElem? (i := 661) (by decide +kernel)⟩
theorem lw_p17 : lw_okq (⟨"CardHouseModel", "settle", "([I)I"⟩, 26) := ⟨⟨by decide +kernel, by decide +kernel⟩, List.mem_of_getElem? (i := 528) (by decide +kernel), List.mem_of_getElem? (i := 681) (by decide +kernel), List.mem_of_getElem? (i := 682) (by decide +kernel)⟩
theorem lw_p18 : lw_okq (⟨"CardHouseModel", "weak", "([I)I"⟩, 26) := ⟨⟨by decide +kernel, by decide +kernel⟩, List.mem_of_getElem? (i := 528) (by decide +kernel), List.mem_of_getElem? (i := 685) (by decide +kernel), List.mem_of_getElem? (i := 686) (by decide +kernel)⟩
theorem lw_p19 : lw_okq (⟨"CardHouseModel", "layLoads", "([I)V"⟩, 26) := ⟨⟨by decide +kernel, by decide +kernel⟩, List.mem_of_getElem? (i := 528) (by decide +kernel), List.mem_of_getElem? (i := 689) (by decide +kernel), List.mem_of_getElem? (i := 690) (by decide +kernel)⟩
theorem lw_p20 : lw_okq (⟨"CardHouseModel", "deckAll", "()I"⟩, 26) := ⟨⟨by decide +kernel, by decide +kernel⟩, List.mem_of_getElem? (i := 528) (by decide +kernel), List.mem_of_getElem? (i := 715) (by decide +kernel), List.mem_of_getElem? (i := 716) (by decide +kernel)⟩
theorem lw_p21 : lw_okq (⟨"CardHouseModel", "left", "([II)I"⟩, 26) := ⟨⟨by decide +kernel, by decide +kernel⟩, List.mem_of_getElem? (i := 528) (by decide +kernel), List.mem_of_getElem? (i := 719) (by decide +kernel), List.mem_of_getElem? (i := 720) (by decide +kernel)⟩
theorem lw_p22 : lw_okq (⟨"CardHouseModel", "highest", "()I"⟩, 26) := ⟨⟨by decide +kernel, by decide +kernel⟩, List.mem_of_getElem? (i := 528) (by decide +kernel), List.mem_of_getElem? (i := 723) (by decide +kernel), List.mem_of_getElem? (i := 724) (by decide +kernel)⟩
theorem lw_p23 : lw_okq (⟨"CardHouseModel", "canPut", "([III)Z"⟩, 26) := ⟨⟨by decide +kernel, by decide +kernel⟩, List.mem_of_getElem? (i := 528) (by decide +kernel), List.mem_of_getElem? (i := 750) (by decide +kernel), List.mem_of_getElem? (i := 751) (by decide +kernel)⟩
theorem lw_p24 : lw_okq (⟨"CardHouseModel", "note", "()V"⟩, 26) := ⟨⟨by decide +kernel, by decide +kernel⟩, List.mem_of_getElem? (i := 528) (by decide +kernel), List.mem_of_getElem? (i := 754) (by decide +kernel), List.mem_of_getElem? (i := 755) (by decide +kernel)⟩
theorem lw_p25 : lw_okq (⟨"CardHouseModel", "goPut", "([III)I"⟩, 26) := ⟨⟨by decide +kernel, by decide +kernel⟩, List.mem_of_getElem? (i := 528) (by decide +kernel), List.mem_of_getElem? (i := 758) (by decide +kernel), List.mem_of_getElem? (i := 759) (by decide +kernel)⟩
theorem lw_p26 : lw_okq (⟨"CardHouseModel", "goDraught", "([III)I"⟩, 26) := ⟨⟨by decide +kernel, by decide +kernel⟩, List.mem_of_getElem? (i := 528) (by decide +kernel), List.mem_of_getElem? (i := 771) (by decide +kernel), List.mem_of_getElem? (i := 772) (by decide +kernel)⟩
theorem lw_p27 : lw_okq (⟨"CardHouseModel", "isTentOf", "([III)Z"⟩, 26) := ⟨⟨by decide +kernel, by decide +kernel⟩, List.mem_of_getElem? (i := 528) (by decide +kernel), List.mem_of_getElem? (i := 775) (by decide +kernel), List.mem_of_getElem? (i := 776) (by decide +kernel)⟩
theorem lw_p28 : lw_okq (⟨"CardHouseModel", "firm", "([II)I"⟩, 26) := ⟨⟨by decide +kernel, by decide +kernel⟩, List.mem_of_getElem? (i := 528) (by decide +kernel), List.mem_of_getElem? (i := 779) (by decide +kernel), List.mem_of_getElem? (i := 780) (by decide +kernel)⟩
theorem lw_p29 : lw_okq (⟨"CardHouseModel", "begin", "()V"⟩, 26) := ⟨⟨by decide +kernel, by decide +kernel⟩, List.mem_of_getElem? (i := 528) (by decide +kernel), List.mem_of_getElem? (i := 813) (by decide +kernel), List.mem_of_getElem? (i := 814) (by decide +kernel)⟩
theorem lw_p30 : lw_okq (⟨"CardHouseModel", "does", "(I)Z"⟩, 26) := ⟨⟨by decide +kernel, by decide +kernel⟩, List.mem_of_getElem? (i := 528) (by decide +kernel), List.mem_of_getElem? (i := 825) (by decide +kernel), List.mem_of_getElem? (i := 826) (by decide +kernel)⟩
theorem lw_p31 : lw_okq (⟨"CardHouseModel", "puts", "(II)Z"⟩, 26) := ⟨⟨by decide +kernel, by decide +kernel⟩, List.mem_of_getElem? (i := 528) (by decide +kernel), List.mem_of_getElem? (i := 829) (by decide +kernel), List.mem_of_getElem? (i := 830) (by decide +kernel)⟩
def lw_privs_2 : List (MethodName × Nat) := [(⟨"CardHouseModel", "enough", "(II)Z"⟩, 26), (⟨"CardHouseModel", "settle", "([I)I"⟩, 26), (⟨"CardHouseModel", "weak", "([I)I"⟩, 26), (⟨"CardHouseModel", "layLoads", "([I)V"⟩, 26), (⟨"CardHouseModel", "deckAll", "()I"⟩, 26), (⟨"CardHouseModel", "left", "([II)I"⟩, 26), (⟨"CardHouseModel", "highest", "()I"⟩, 26), (⟨"CardHouseModel", "canPut", "([III)Z"⟩, 26), (⟨"CardHouseModel", "note", "()V"⟩, 26), (⟨"CardHouseModel", "goPut", "([III)I"⟩, 26), (⟨"CardHouseModel", "goDraught", "([III)I"⟩, 26), (⟨"CardHouseModel", "isTentOf", "([III)Z"⟩, 26), (⟨"CardHouseModel", "firm", "([II)I"⟩, 26), (⟨"CardHouseModel", "begin", "()V"⟩, 26), (⟨"CardHouseModel", "does", "(I)Z"⟩, 26), (⟨"CardHouseModel", "puts", "(II)Z"⟩, 26)]
theorem lw_r2 : ∀ q ∈ lw_privs_2, lw_okq q := List.forall_mem_cons.mpr ⟨lw_p16, List.forall_mem_cons.mpr ⟨lw_p17, List.forall_mem_cons.mpr ⟨lw_p18, List.forall_mem_cons.mpr ⟨lw_p19, List.forall_mem_cons.mpr ⟨lw_p20, List.forall_mem_cons.mpr ⟨lw_p21, List.forall_mem_cons.mpr ⟨lw_p22, List.forall_mem_cons.mpr ⟨lw_p23, List.forall_mem_cons.mpr ⟨lw_p24, List.forall_mem_cons.mpr ⟨lw_p25, List.forall_mem_cons.mpr ⟨lw_p26, List.forall_mem_cons.mpr ⟨lw_p27, List.forall_mem_cons.mpr ⟨lw_p28, List.forall_mem_cons.mpr ⟨lw_p29, List.forall_mem_cons.mpr ⟨lw_p30, List.forall_mem_cons.mpr ⟨lw_p31, fun _ h => absurd h List.not_mem_nil⟩⟩⟩⟩⟩⟩⟩⟩⟩⟩⟩⟩⟩⟩⟩⟩
theorem lw_p32 : lw_okq (⟨"CardHouseModel", "takes", "(I)Z"⟩, 26) := ⟨⟨by decide +kernel, by decide +kernel⟩, List.mem_of_getElem? (i := 528) (by decide +kernel), List.mem_of_getElem? (i := 833) (by decide +kernel), List.mem_of_getElem? (i := 834) (by decide +kernel)⟩
theorem lw_p33 : lw_okq (⟨"CardHouseModel", "blows", "(II)Z"⟩, 26) := ⟨⟨by decide +kernel, by decide +kernel⟩, List.mem_of_getElem? (i := 528) (by decide +kernel), List.mem_of_getElem? (i := 837) (by decide +kernel), List.mem_of_getElem? (i := 838) (by decide +kernel)⟩
def lw_privs_3 : List (MethodName × Nat) := [(⟨"CardHouseModel", "takes", "(I)Z"⟩, 26), (⟨"CardHouseModel", "blows", "(II)Z"⟩, 26)]
theorem lw_r3 : ∀ q ∈ lw_privs_3, lw_okq q := List.forall_mem_cons.mpr ⟨lw_p32, List.forall_mem_cons.mpr ⟨lw_p33, fun _ h => absurd h List.not_mem_nil⟩⟩
def lw_privs : List (MethodName × Nat) := lw_privs_1 ++ (lw_privs_2 ++ (lw_privs_3))
def lw_tbl : List Cond := k2_sels lw_privs ++ tables_1
theorem lw_privs_ok : ∀ q ∈ lw_privs, lw_okq q := by
  show ∀ q ∈ lw_privs_1 ++ (lw_privs_2 ++ (lw_privs_3)), lw_okq q
  exact List.forall_mem_append.mpr ⟨lw_r1, List.forall_mem_append.mpr ⟨lw_r2, lw_r3⟩⟩
end
section
def RX0 : String := "CardHouse$Contest"
def TX0 : u_T := fun k => match k with
  | 0 => ("CardHouse$Contest", "firstHas", "[I", true)
  | _ => ("CardHouse$Contest", "secondHas", "[I", true)
def tyX0 : Nat → FieldType := fun k => match k with
  | 0 => .array .int
  | _ => .array .int
abbrev wsX00 : List Cond := u_ws RX0 TX0 2
theorem nmX0 : ∀ a, a < 2 → ∀ b, b < 2 → a ≠ b → (TX0 a).2.1 ≠ (TX0 b).2.1 := by decide +kernel
theorem tyX0_ok : ∀ k, k < 2 → parseFieldDescriptor (TX0 k).2.2.1 = some (tyX0 k) := by decide +kernel
abbrev cX0_init : ByteArray := prog_2_method_1_code
def yX0_init : MethodName := ⟨RX0, "<init>", "()V"⟩
abbrev cX0_note : ByteArray := prog_2_method_2_code
def yX0_note : MethodName := ⟨RX0, "note", "(IIII)V"⟩
abbrev cX0_countAtRest : ByteArray := prog_2_method_3_code
def yX0_countAtRest : MethodName := ⟨RX0, "countAtRest", "()I"⟩
abbrev cX0_firstAtRest : ByteArray := prog_2_method_4_code
def yX0_firstAtRest : MethodName := ⟨RX0, "firstAtRest", "()I"⟩
abbrev cX0_isAtRest : ByteArray := prog_2_method_5_code
def yX0_isAtRest : MethodName := ⟨RX0, "isAtRest", "(I)Z"⟩
def RX1 : String := "CardHouse$Pile"
def TX1 : u_T := fun k => match k with
  | 0 => ("CardHouse$Pile", "there", "I", false)
  | 1 => ("CardHouse$Pile", "kinds", "I", false)
  | 2 => ("CardHouse$Pile", "fell", "I", false)
  | 3 => ("CardHouse$Pile", "cards", "[I", true)
  | _ => ("CardHouse$Pile", "loads", "[I", true)
def tyX1 : Nat → FieldType := fun k => match k with
  | 0 => .int
  | 1 => .int
  | 2 => .int
  | 3 => .array .int
  | _ => .array .int
abbrev wsX10 : List Cond := u_ws RX1 TX1 5
theorem nmX1 : ∀ a, a < 5 → ∀ b, b < 5 → a ≠ b → (TX1 a).2.1 ≠ (TX1 b).2.1 := by decide +kernel
theorem tyX1_ok : ∀ k, k < 5 → parseFieldDescriptor (TX1 k).2.2.1 = some (tyX1 k) := by decide +kernel
abbrev cX1_init : ByteArray := prog_3_method_1_code
def yX1_init : MethodName := ⟨RX1, "<init>", "()V"⟩
abbrev cX1_clear : ByteArray := prog_3_method_2_code
def yX1_clear : MethodName := ⟨RX1, "clear", "()V"⟩
abbrev cX1_copyFrom : ByteArray := prog_3_method_3_code
def yX1_copyFrom : MethodName := ⟨RX1, "copyFrom", "(LCardHouse$Pile;)V"⟩
abbrev cX1_size : ByteArray := prog_3_method_4_code
def yX1_size : MethodName := ⟨RX1, "size", "()I"⟩
abbrev cX1_has : ByteArray := prog_3_method_5_code
def yX1_has : MethodName := ⟨RX1, "has", "(I)Z"⟩
abbrev cX1_kindOf : ByteArray := prog_3_method_6_code
def yX1_kindOf : MethodName := ⟨RX1, "kindOf", "(I)I"⟩
abbrev cX1_weightOf : ByteArray := prog_3_method_7_code
def yX1_weightOf : MethodName := ⟨RX1, "weightOf", "(I)I"⟩
abbrev cX1_highestLevel : ByteArray := prog_3_method_8_code
def yX1_highestLevel : MethodName := ⟨RX1, "highestLevel", "()I"⟩
abbrev cX1_cardsLeft : ByteArray := prog_3_method_9_code
def yX1_cardsLeft : MethodName := ⟨RX1, "cardsLeft", "(I)I"⟩
abbrev cX1_mostCardsLeft : ByteArray := prog_3_method_10_code
def yX1_mostCardsLeft : MethodName := ⟨RX1, "mostCardsLeft", "()I"⟩
abbrev cX1_hasRoomFor : ByteArray := prog_3_method_11_code
def yX1_hasRoomFor : MethodName := ⟨RX1, "hasRoomFor", "(I)Z"⟩
abbrev cX1_canLay : ByteArray := prog_3_method_12_code
def yX1_canLay : MethodName := ⟨RX1, "canLay", "(II)Z"⟩
abbrev cX1_place : ByteArray := prog_3_method_13_code
def yX1_place : MethodName := ⟨RX1, "place", "(II)V"⟩
abbrev cX1_lay : ByteArray := prog_3_method_14_code
def yX1_lay : MethodName := ⟨RX1, "lay", "(II)I"⟩
abbrev cX1_layIfCan : ByteArray := prog_3_method_15_code
def yX1_layIfCan : MethodName := ⟨RX1, "layIfCan", "(II)Z"⟩
abbrev cX1_canLift : ByteArray := prog_3_method_16_code
def yX1_canLift : MethodName := ⟨RX1, "canLift", "(I)Z"⟩
abbrev cX1_lift : ByteArray := prog_3_method_17_code
def yX1_lift : MethodName := ⟨RX1, "lift", "(I)V"⟩
abbrev cX1_liftIfCan : ByteArray := prog_3_method_18_code
def yX1_liftIfCan : MethodName := ⟨RX1, "liftIfCan", "(I)Z"⟩
abbrev cX1_blow : ByteArray := prog_3_method_19_code
def yX1_blow : MethodName := ⟨RX1, "blow", "(II)I"⟩
abbrev cX1_blowIfCan : ByteArray := prog_3_method_20_code
def yX1_blowIfCan : MethodName := ⟨RX1, "blowIfCan", "(II)Z"⟩
abbrev cX1_forceStood : ByteArray := prog_3_method_21_code
def yX1_forceStood : MethodName := ⟨RX1, "forceStood", "(I)I"⟩
abbrev cX1_isTentOfLevel : ByteArray := prog_3_method_22_code
def yX1_isTentOfLevel : MethodName := ⟨RX1, "isTentOfLevel", "(II)Z"⟩
abbrev cX1_settle : ByteArray := prog_3_method_23_code
def yX1_settle : MethodName := ⟨RX1, "settle", "()I"⟩
abbrev cX1_drop : ByteArray := prog_3_method_24_code
def yX1_drop : MethodName := ⟨RX1, "drop", "(I)I"⟩
abbrev cX1_goneWith : ByteArray := prog_3_method_25_code
def yX1_goneWith : MethodName := ⟨RX1, "goneWith", "(I)I"⟩
abbrev cX1_sizeWithout : ByteArray := prog_3_method_26_code
def yX1_sizeWithout : MethodName := ⟨RX1, "sizeWithout", "(I)I"⟩
abbrev cX1_missingFor : ByteArray := prog_3_method_27_code
def yX1_missingFor : MethodName := ⟨RX1, "missingFor", "(I)I"⟩
abbrev cX1_loadOf : ByteArray := prog_3_method_28_code
def yX1_loadOf : MethodName := ⟨RX1, "loadOf", "(I)I"⟩
abbrev cX1_weigh : ByteArray := prog_3_method_29_code
def yX1_weigh : MethodName := ⟨RX1, "weigh", "()V"⟩
def RX2 : String := "CardHouse$Shelf"
def TX2 : u_T := fun k => match k with
  | 0 => ("CardHouse$Shelf", "size", "I", true)
  | 1 => ("CardHouse$Shelf", "there", "[I", true)
  | 2 => ("CardHouse$Shelf", "kinds", "[I", true)
  | _ => ("CardHouse$Shelf", "fell", "[I", true)
def tyX2 : Nat → FieldType := fun k => match k with
  | 0 => .int
  | 1 => .array .int
  | 2 => .array .int
  | _ => .array .int
abbrev wsX20 : List Cond := u_ws RX2 TX2 4
theorem nmX2 : ∀ a, a < 4 → ∀ b, b < 4 → a ≠ b → (TX2 a).2.1 ≠ (TX2 b).2.1 := by decide +kernel
theorem tyX2_ok : ∀ k, k < 4 → parseFieldDescriptor (TX2 k).2.2.1 = some (tyX2 k) := by decide +kernel
abbrev cX2_init : ByteArray := prog_4_method_1_code
def yX2_init : MethodName := ⟨RX2, "<init>", "(I)V"⟩
abbrev cX2_store : ByteArray := prog_4_method_2_code
def yX2_store : MethodName := ⟨RX2, "store", "(ILCardHouse$Pile;)V"⟩
abbrev cX2_restore : ByteArray := prog_4_method_3_code
def yX2_restore : MethodName := ⟨RX2, "restore", "(ILCardHouse$Pile;)V"⟩
abbrev cX2_forgetFirst : ByteArray := prog_4_method_4_code
def yX2_forgetFirst : MethodName := ⟨RX2, "forgetFirst", "()V"⟩
def RX3 : String := "CardHouse$Text"
def TX3 : u_T := fun k => match k with
  | 0 => ("CardHouse$Text", "letters", "[I", true)
  | _ => ("CardHouse$Text", "length", "I", false)
def tyX3 : Nat → FieldType := fun k => match k with
  | 0 => .array .int
  | _ => .int
abbrev wsX30 : List Cond := u_ws RX3 TX3 2
theorem nmX3 : ∀ a, a < 2 → ∀ b, b < 2 → a ≠ b → (TX3 a).2.1 ≠ (TX3 b).2.1 := by decide +kernel
theorem tyX3_ok : ∀ k, k < 2 → parseFieldDescriptor (TX3 k).2.2.1 = some (tyX3 k) := by decide +kernel
abbrev cX3_init : ByteArray := prog_5_method_1_code
def yX3_init : MethodName := ⟨RX3, "<init>", "()V"⟩
abbrev cX3_append : ByteArray := prog_5_method_2_code
def yX3_append : MethodName := ⟨RX3, "append", "(I)V"⟩
abbrev cX3_readInto : ByteArray := prog_5_method_3_code
def yX3_readInto : MethodName := ⟨RX3, "readInto", "(LCardHouse$Pile;)I"⟩
abbrev cX3_readLetter : ByteArray := prog_5_method_4_code
def yX3_readLetter : MethodName := ⟨RX3, "readLetter", "(LCardHouse$Pile;II)Z"⟩
abbrev cX3_readFigure : ByteArray := prog_5_method_5_code
def yX3_readFigure : MethodName := ⟨RX3, "readFigure", "(LCardHouse$Pile;II)Z"⟩
abbrev cX3_canAnyBeTold : ByteArray := prog_5_method_6_code
def yX3_canAnyBeTold : MethodName := ⟨RX3, "canAnyBeTold", "(LCardHouse$Pile;)Z"⟩
abbrev cX3_canBeTold : ByteArray := prog_5_method_7_code
def yX3_canBeTold : MethodName := ⟨RX3, "canBeTold", "(LCardHouse$Pile;II)Z"⟩
abbrev cX3_readKind : ByteArray := prog_5_method_8_code
def yX3_readKind : MethodName := ⟨RX3, "readKind", "(LCardHouse$Pile;II)Z"⟩
def RX4 : String := "CardHouse"
def TX4 : u_T := fun k => match k with
  | 0 => ("CardHouse", "text", "LCardHouse$Text;", true)
  | 1 => ("CardHouse", "now", "LCardHouse$Pile;", true)
  | 2 => ("CardHouse", "trial", "LCardHouse$Pile;", true)
  | 3 => ("CardHouse", "acts", "LCardHouse$Shelf;", true)
  | 4 => ("CardHouse", "slots", "LCardHouse$Shelf;", true)
  | 5 => ("CardHouse", "contest", "LCardHouse$Contest;", true)
  | 6 => ("CardHouse", "actCount", "I", false)
  | 7 => ("CardHouse", "keptSlots", "I", false)
  | 8 => ("CardHouse", "heldCount", "I", false)
  | 9 => ("CardHouse", "oneKinds", "I", false)
  | 10 => ("CardHouse", "otherKinds", "I", false)
  | _ => ("CardHouse", "theSeed", "J", false)
def tyX4 : Nat → FieldType := fun k => match k with
  | 0 => .object "CardHouse$Text"
  | 1 => .object "CardHouse$Pile"
  | 2 => .object "CardHouse$Pile"
  | 3 => .object "CardHouse$Shelf"
  | 4 => .object "CardHouse$Shelf"
  | 5 => .object "CardHouse$Contest"
  | 6 => .int
  | 7 => .int
  | 8 => .int
  | 9 => .int
  | 10 => .int
  | _ => .long
abbrev wsX40 : List Cond := u_ws RX4 TX4 12
theorem nmX4 : ∀ a, a < 12 → ∀ b, b < 12 → a ≠ b → (TX4 a).2.1 ≠ (TX4 b).2.1 := by decide +kernel
theorem tyX4_ok : ∀ k, k < 12 → parseFieldDescriptor (TX4 k).2.2.1 = some (tyX4 k) := by decide +kernel
abbrev cX4_init : ByteArray := prog_1_method_1_code
def yX4_init : MethodName := ⟨RX4, "<init>", "()V"⟩
abbrev cX4_write : ByteArray := prog_1_method_2_code
def yX4_write : MethodName := ⟨RX4, "write", "(I)I"⟩
abbrev cX4_wipe : ByteArray := prog_1_method_3_code
def yX4_wipe : MethodName := ⟨RX4, "wipe", "()I"⟩
abbrev cX4_fault : ByteArray := prog_1_method_4_code
def yX4_fault : MethodName := ⟨RX4, "fault", "()I"⟩
abbrev cX4_house : ByteArray := prog_1_method_5_code
def yX4_house : MethodName := ⟨RX4, "house", "()I"⟩
abbrev cX4_about : ByteArray := prog_1_method_6_code
def yX4_about : MethodName := ⟨RX4, "about", "(I)I"⟩
abbrev cX4_cardsInDeck : ByteArray := prog_1_method_7_code
def yX4_cardsInDeck : MethodName := ⟨RX4, "cardsInDeck", "()I"⟩
abbrev cX4_deck : ByteArray := prog_1_method_8_code
def yX4_deck : MethodName := ⟨RX4, "deck", "(I)I"⟩
abbrev cX4_piece : ByteArray := prog_1_method_9_code
def yX4_piece : MethodName := ⟨RX4, "piece", "(II)I"⟩
abbrev cX4_put : ByteArray := prog_1_method_10_code
def yX4_put : MethodName := ⟨RX4, "put", "(II)I"⟩
abbrev cX4_take : ByteArray := prog_1_method_11_code
def yX4_take : MethodName := ⟨RX4, "take", "(I)I"⟩
abbrev cX4_draught : ByteArray := prog_1_method_12_code
def yX4_draught : MethodName := ⟨RX4, "draught", "(II)I"⟩
abbrev cX4_undo : ByteArray := prog_1_method_13_code
def yX4_undo : MethodName := ⟨RX4, "undo", "()I"⟩
abbrev cX4_recordAct : ByteArray := prog_1_method_14_code
def yX4_recordAct : MethodName := ⟨RX4, "recordAct", "()V"⟩
abbrev cX4_open : ByteArray := prog_1_method_15_code
def yX4_open : MethodName := ⟨RX4, "open", "(I)I"⟩
abbrev cX4_spread : ByteArray := prog_1_method_16_code
def yX4_spread : MethodName := ⟨RX4, "spread", "(I)I"⟩
abbrev cX4_stands : ByteArray := prog_1_method_17_code
def yX4_stands : MethodName := ⟨RX4, "stands", "(I)I"⟩
abbrev cX4_wants : ByteArray := prog_1_method_18_code
def yX4_wants : MethodName := ⟨RX4, "wants", "(II)I"⟩
abbrev cX4_fit : ByteArray := prog_1_method_19_code
def yX4_fit : MethodName := ⟨RX4, "fit", "(I)I"⟩
abbrev cX4_judge : ByteArray := prog_1_method_20_code
def yX4_judge : MethodName := ⟨RX4, "judge", "(IJ)I"⟩
abbrev cX4_canBeDone : ByteArray := prog_1_method_21_code
def yX4_canBeDone : MethodName := ⟨RX4, "canBeDone", "(I)Z"⟩
abbrev cX4_share : ByteArray := prog_1_method_22_code
def yX4_share : MethodName := ⟨RX4, "share", "(IZ)I"⟩
abbrev cX4_hold : ByteArray := prog_1_method_23_code
def yX4_hold : MethodName := ⟨RX4, "hold", "(IIII)I"⟩
abbrev cX4_kindsThatHold : ByteArray := prog_1_method_24_code
def yX4_kindsThatHold : MethodName := ⟨RX4, "kindsThatHold", "(II)I"⟩
abbrev cX4_unhold : ByteArray := prog_1_method_25_code
def yX4_unhold : MethodName := ⟨RX4, "unhold", "()I"⟩
abbrev cX4_tents : ByteArray := prog_1_method_26_code
def yX4_tents : MethodName := ⟨RX4, "tents", "(I)I"⟩
abbrev cX4_rests : ByteArray := prog_1_method_27_code
def yX4_rests : MethodName := ⟨RX4, "rests", "(III)I"⟩
abbrev cX4_gain : ByteArray := prog_1_method_28_code
def yX4_gain : MethodName := ⟨RX4, "gain", "(II)I"⟩
abbrev cX4_shaken : ByteArray := prog_1_method_29_code
def yX4_shaken : MethodName := ⟨RX4, "shaken", "(IIZ)I"⟩
abbrev cX4_seed : ByteArray := prog_1_method_30_code
def yX4_seed : MethodName := ⟨RX4, "seed", "(J)J"⟩
abbrev cX4_evenings : ByteArray := prog_1_method_31_code
def yX4_evenings : MethodName := ⟨RX4, "evenings", "(I)I"⟩
abbrev cX4_passEvening : ByteArray := prog_1_method_32_code
def yX4_passEvening : MethodName := ⟨RX4, "passEvening", "(I)V"⟩
abbrev cX4_keep : ByteArray := prog_1_method_33_code
def yX4_keep : MethodName := ⟨RX4, "keep", "(I)I"⟩
abbrev cX4_again : ByteArray := prog_1_method_34_code
def yX4_again : MethodName := ⟨RX4, "again", "(I)I"⟩
abbrev cX4_isPiece : ByteArray := prog_1_method_35_code
def yX4_isPiece : MethodName := ⟨RX4, "isPiece", "(I)Z"⟩
abbrev cX4_isKind : ByteArray := prog_1_method_36_code
def yX4_isKind : MethodName := ⟨RX4, "isKind", "(I)Z"⟩
abbrev cX4_isLevel : ByteArray := prog_1_method_37_code
def yX4_isLevel : MethodName := ⟨RX4, "isLevel", "(I)Z"⟩
abbrev cX4_isForce : ByteArray := prog_1_method_38_code
def yX4_isForce : MethodName := ⟨RX4, "isForce", "(I)Z"⟩
abbrev cX4_isSlot : ByteArray := prog_1_method_39_code
def yX4_isSlot : MethodName := ⟨RX4, "isSlot", "(I)Z"⟩
abbrev cX4_cardsOf : ByteArray := prog_1_method_40_code
def yX4_cardsOf : MethodName := ⟨RX4, "cardsOf", "(I)I"⟩
abbrev cX4_cardWeight : ByteArray := prog_1_method_41_code
def yX4_cardWeight : MethodName := ⟨RX4, "cardWeight", "(I)I"⟩
abbrev cX4_steadiness : ByteArray := prog_1_method_42_code
def yX4_steadiness : MethodName := ⟨RX4, "steadiness", "(II)I"⟩
abbrev cX4_power : ByteArray := prog_1_method_43_code
def yX4_power : MethodName := ⟨RX4, "power", "(II)I"⟩
abbrev cX4_partOfFraction : ByteArray := prog_1_method_44_code
def yX4_partOfFraction : MethodName := ⟨RX4, "partOfFraction", "(IIZ)I"⟩
abbrev cX4_commonDivisor : ByteArray := prog_1_method_45_code
def yX4_commonDivisor : MethodName := ⟨RX4, "commonDivisor", "(II)I"⟩
def RX5 : String := "CardHouseModel"
def TX5 : u_T := fun k => match k with
  | 0 => ("CardHouseModel", "thrown", "I", false)
  | 1 => ("CardHouseModel", "text", "[I", true)
  | 2 => ("CardHouseModel", "textSize", "I", false)
  | 3 => ("CardHouseModel", "place", "I", false)
  | 4 => ("CardHouseModel", "cards", "[I", true)
  | 5 => ("CardHouseModel", "readCards", "[I", true)
  | 6 => ("CardHouseModel", "readPage", "[I", true)
  | 7 => ("CardHouseModel", "page", "[I", true)
  | 8 => ("CardHouseModel", "trial", "[I", true)
  | 9 => ("CardHouseModel", "loads", "[I", true)
  | 10 => ("CardHouseModel", "book", "[I", true)
  | 11 => ("CardHouseModel", "acts", "I", false)
  | 12 => ("CardHouseModel", "kept", "[I", true)
  | 13 => ("CardHouseModel", "isKept", "[Z", true)
  | 14 => ("CardHouseModel", "held", "I", false)
  | 15 => ("CardHouseModel", "heldWho", "[I", true)
  | 16 => ("CardHouseModel", "heldForce", "[I", true)
  | 17 => ("CardHouseModel", "heldLoad", "[I", true)
  | 18 => ("CardHouseModel", "heldIs", "[I", true)
  | 19 => ("CardHouseModel", "seed", "J", false)
  | 20 => ("CardHouseModel", "tentMany", "I", false)
  | 21 => ("CardHouseModel", "tentFirst", "I", false)
  | 22 => ("CardHouseModel", "restMany", "I", false)
  | 23 => ("CardHouseModel", "restFirst", "I", false)
  | 24 => ("CardHouseModel", "gains", "[I", true)
  | _ => ("CardHouseModel", "value", "[I", true)
def tyX5 : Nat → FieldType := fun k => match k with
  | 0 => .int
  | 1 => .array .int
  | 2 => .int
  | 3 => .int
  | 4 => .array .int
  | 5 => .array .int
  | 6 => .array .int
  | 7 => .array .int
  | 8 => .array .int
  | 9 => .array .int
  | 10 => .array .int
  | 11 => .int
  | 12 => .array .int
  | 13 => .array .boolean
  | 14 => .int
  | 15 => .array .int
  | 16 => .array .int
  | 17 => .array .int
  | 18 => .array .int
  | 19 => .long
  | 20 => .int
  | 21 => .int
  | 22 => .int
  | 23 => .int
  | 24 => .array .int
  | _ => .array .int
abbrev wsX50 : List Cond := u_ws RX5 TX5 26
theorem nmX5 : ∀ a, a < 26 → ∀ b, b < 26 → a ≠ b → (TX5 a).2.1 ≠ (TX5 b).2.1 := by decide +kernel
theorem tyX5_ok : ∀ k, k < 26 → parseFieldDescriptor (TX5 k).2.2.1 = some (tyX5 k) := by decide +kernel
abbrev cX5_init : ByteArray := prog_7_method_1_code
def yX5_init : MethodName := ⟨RX5, "<init>", "()V"⟩
abbrev cX5_in : ByteArray := prog_7_method_3_code
def yX5_in : MethodName := ⟨RX5, "in", "(JJJ)Z"⟩
abbrev cX5_has : ByteArray := prog_7_method_4_code
def yX5_has : MethodName := ⟨RX5, "has", "(II)Z"⟩
abbrev cX5_many : ByteArray := prog_7_method_5_code
def yX5_many : MethodName := ⟨RX5, "many", "(I)I"⟩
abbrev cX5_power : ByteArray := prog_7_method_6_code
def yX5_power : MethodName := ⟨RX5, "power", "(II)I"⟩
abbrev cX5_noPiece : ByteArray := prog_7_method_7_code
def yX5_noPiece : MethodName := ⟨RX5, "noPiece", "(I)Z"⟩
abbrev cX5_noKind : ByteArray := prog_7_method_8_code
def yX5_noKind : MethodName := ⟨RX5, "noKind", "(I)Z"⟩
abbrev cX5_level : ByteArray := prog_7_method_9_code
def yX5_level : MethodName := ⟨RX5, "level", "(I)I"⟩
abbrev cX5_isFlat : ByteArray := prog_7_method_10_code
def yX5_isFlat : MethodName := ⟨RX5, "isFlat", "(I)Z"⟩
abbrev cX5_need : ByteArray := prog_7_method_11_code
def yX5_need : MethodName := ⟨RX5, "need", "(I)I"⟩
abbrev cX5_below : ByteArray := prog_7_method_12_code
def yX5_below : MethodName := ⟨RX5, "below", "(I)I"⟩
abbrev cX5_weighs : ByteArray := prog_7_method_13_code
def yX5_weighs : MethodName := ⟨RX5, "weighs", "(II)I"⟩
abbrev cX5_bearsBy : ByteArray := prog_7_method_14_code
def yX5_bearsBy : MethodName := ⟨RX5, "bearsBy", "(I)I"⟩
abbrev cX5_grip : ByteArray := prog_7_method_15_code
def yX5_grip : MethodName := ⟨RX5, "grip", "(I)I"⟩
abbrev cX5_there : ByteArray := prog_7_method_16_code
def yX5_there : MethodName := ⟨RX5, "there", "([I)I"⟩
abbrev cX5_used : ByteArray := prog_7_method_17_code
def yX5_used : MethodName := ⟨RX5, "used", "([II)I"⟩
abbrev cX5_left : ByteArray := prog_7_method_18_code
def yX5_left : MethodName := ⟨RX5, "left", "([II)I"⟩
abbrev cX5_layLoads : ByteArray := prog_7_method_19_code
def yX5_layLoads : MethodName := ⟨RX5, "layLoads", "([I)V"⟩
abbrev cX5_spreadOf : ByteArray := prog_7_method_20_code
def yX5_spreadOf : MethodName := ⟨RX5, "spreadOf", "([II)I"⟩
abbrev cX5_fallAll : ByteArray := prog_7_method_21_code
def yX5_fallAll : MethodName := ⟨RX5, "fallAll", "([II)I"⟩
abbrev cX5_weak : ByteArray := prog_7_method_22_code
def yX5_weak : MethodName := ⟨RX5, "weak", "([I)I"⟩
abbrev cX5_settle : ByteArray := prog_7_method_23_code
def yX5_settle : MethodName := ⟨RX5, "settle", "([I)I"⟩
abbrev cX5_write : ByteArray := prog_7_method_24_code
def yX5_write : MethodName := ⟨RX5, "write", "(I)I"⟩
abbrev cX5_wipe : ByteArray := prog_7_method_25_code
def yX5_wipe : MethodName := ⟨RX5, "wipe", "()I"⟩
abbrev cX5_figure : ByteArray := prog_7_method_26_code
def yX5_figure : MethodName := ⟨RX5, "figure", "(I)I"⟩
abbrev cX5_enough : ByteArray := prog_7_method_27_code
def yX5_enough : MethodName := ⟨RX5, "enough", "(II)Z"⟩
abbrev cX5_couldCome : ByteArray := prog_7_method_28_code
def yX5_couldCome : MethodName := ⟨RX5, "couldCome", "(I)Z"⟩
abbrev cX5_couldAny : ByteArray := prog_7_method_29_code
def yX5_couldAny : MethodName := ⟨RX5, "couldAny", "()Z"⟩
abbrev cX5_readPiece : ByteArray := prog_7_method_30_code
def yX5_readPiece : MethodName := ⟨RX5, "readPiece", "()Z"⟩
abbrev cX5_readHead : ByteArray := prog_7_method_31_code
def yX5_readHead : MethodName := ⟨RX5, "readHead", "()Z"⟩
abbrev cX5_readHouse : ByteArray := prog_7_method_32_code
def yX5_readHouse : MethodName := ⟨RX5, "readHouse", "()I"⟩
abbrev cX5_fault : ByteArray := prog_7_method_33_code
def yX5_fault : MethodName := ⟨RX5, "fault", "()I"⟩
abbrev cX5_house : ByteArray := prog_7_method_34_code
def yX5_house : MethodName := ⟨RX5, "house", "()I"⟩
abbrev cX5_deckAll : ByteArray := prog_7_method_35_code
def yX5_deckAll : MethodName := ⟨RX5, "deckAll", "()I"⟩
abbrev cX5_highest : ByteArray := prog_7_method_36_code
def yX5_highest : MethodName := ⟨RX5, "highest", "()I"⟩
abbrev cX5_about : ByteArray := prog_7_method_37_code
def yX5_about : MethodName := ⟨RX5, "about", "(I)I"⟩
abbrev cX5_deck : ByteArray := prog_7_method_38_code
def yX5_deck : MethodName := ⟨RX5, "deck", "(I)I"⟩
abbrev cX5_isTop : ByteArray := prog_7_method_39_code
def yX5_isTop : MethodName := ⟨RX5, "isTop", "([II)Z"⟩
abbrev cX5_piece : ByteArray := prog_7_method_40_code
def yX5_piece : MethodName := ⟨RX5, "piece", "(II)I"⟩
abbrev cX5_note : ByteArray := prog_7_method_41_code
def yX5_note : MethodName := ⟨RX5, "note", "()V"⟩
abbrev cX5_canPut : ByteArray := prog_7_method_42_code
def yX5_canPut : MethodName := ⟨RX5, "canPut", "([III)Z"⟩
abbrev cX5_goPut : ByteArray := prog_7_method_43_code
def yX5_goPut : MethodName := ⟨RX5, "goPut", "([III)I"⟩
abbrev cX5_put : ByteArray := prog_7_method_44_code
def yX5_put : MethodName := ⟨RX5, "put", "(II)I"⟩
abbrev cX5_take : ByteArray := prog_7_method_45_code
def yX5_take : MethodName := ⟨RX5, "take", "(I)I"⟩
abbrev cX5_isTentOf : ByteArray := prog_7_method_46_code
def yX5_isTentOf : MethodName := ⟨RX5, "isTentOf", "([III)Z"⟩
abbrev cX5_firm : ByteArray := prog_7_method_47_code
def yX5_firm : MethodName := ⟨RX5, "firm", "([II)I"⟩
abbrev cX5_goDraught : ByteArray := prog_7_method_48_code
def yX5_goDraught : MethodName := ⟨RX5, "goDraught", "([III)I"⟩
abbrev cX5_draught : ByteArray := prog_7_method_49_code
def yX5_draught : MethodName := ⟨RX5, "draught", "(II)I"⟩
abbrev cX5_undo : ByteArray := prog_7_method_50_code
def yX5_undo : MethodName := ⟨RX5, "undo", "()I"⟩
abbrev cX5_open : ByteArray := prog_7_method_51_code
def yX5_open : MethodName := ⟨RX5, "open", "(I)I"⟩
abbrev cX5_spread : ByteArray := prog_7_method_52_code
def yX5_spread : MethodName := ⟨RX5, "spread", "(I)I"⟩
abbrev cX5_stands : ByteArray := prog_7_method_53_code
def yX5_stands : MethodName := ⟨RX5, "stands", "(I)I"⟩
abbrev cX5_wanted : ByteArray := prog_7_method_54_code
def yX5_wanted : MethodName := ⟨RX5, "wanted", "([II)I"⟩
abbrev cX5_wants : ByteArray := prog_7_method_55_code
def yX5_wants : MethodName := ⟨RX5, "wants", "(II)I"⟩
abbrev cX5_begin : ByteArray := prog_7_method_56_code
def yX5_begin : MethodName := ⟨RX5, "begin", "()V"⟩
abbrev cX5_fit : ByteArray := prog_7_method_57_code
def yX5_fit : MethodName := ⟨RX5, "fit", "(I)I"⟩
abbrev cX5_longPower : ByteArray := prog_7_method_58_code
def yX5_longPower : MethodName := ⟨RX5, "longPower", "(JI)J"⟩
abbrev cX5_puts : ByteArray := prog_7_method_59_code
def yX5_puts : MethodName := ⟨RX5, "puts", "(II)Z"⟩
abbrev cX5_takes : ByteArray := prog_7_method_60_code
def yX5_takes : MethodName := ⟨RX5, "takes", "(I)Z"⟩
abbrev cX5_blows : ByteArray := prog_7_method_61_code
def yX5_blows : MethodName := ⟨RX5, "blows", "(II)Z"⟩
abbrev cX5_does : ByteArray := prog_7_method_62_code
def yX5_does : MethodName := ⟨RX5, "does", "(I)Z"⟩
abbrev cX5_judge : ByteArray := prog_7_method_63_code
def yX5_judge : MethodName := ⟨RX5, "judge", "(IJ)I"⟩
abbrev cX5_ways : ByteArray := prog_7_method_64_code
def yX5_ways : MethodName := ⟨RX5, "ways", "(I)I"⟩
abbrev cX5_divisor : ByteArray := prog_7_method_65_code
def yX5_divisor : MethodName := ⟨RX5, "divisor", "(II)I"⟩
abbrev cX5_fraction : ByteArray := prog_7_method_66_code
def yX5_fraction : MethodName := ⟨RX5, "fraction", "(IIZ)I"⟩
abbrev cX5_share : ByteArray := prog_7_method_67_code
def yX5_share : MethodName := ⟨RX5, "share", "(IZ)I"⟩
abbrev cX5_hold : ByteArray := prog_7_method_68_code
def yX5_hold : MethodName := ⟨RX5, "hold", "(IIII)I"⟩
abbrev cX5_unhold : ByteArray := prog_7_method_69_code
def yX5_unhold : MethodName := ⟨RX5, "unhold", "()I"⟩
abbrev cX5_tents : ByteArray := prog_7_method_70_code
def yX5_tents : MethodName := ⟨RX5, "tents", "(I)I"⟩
abbrev cX5_rests : ByteArray := prog_7_method_71_code
def yX5_rests : MethodName := ⟨RX5, "rests", "(III)I"⟩
abbrev cX5_shaken : ByteArray := prog_7_method_72_code
def yX5_shaken : MethodName := ⟨RX5, "shaken", "(IIZ)I"⟩
abbrev cX5_seed : ByteArray := prog_7_method_73_code
def yX5_seed : MethodName := ⟨RX5, "seed", "(J)J"⟩
abbrev cX5_evenings : ByteArray := prog_7_method_74_code
def yX5_evenings : MethodName := ⟨RX5, "evenings", "(I)I"⟩
abbrev cX5_keep : ByteArray := prog_7_method_75_code
def yX5_keep : MethodName := ⟨RX5, "keep", "(I)I"⟩
abbrev cX5_again : ByteArray := prog_7_method_76_code
def yX5_again : MethodName := ⟨RX5, "again", "(I)I"⟩
def RJ6 : String := "java/lang/Integer"
def TJ6 : u_T := fun k => match k with
  | _ => ("", "", "", false)
def tyJ6 : Nat → FieldType := fun k => match k with
  | _ => .int
abbrev wsJ60 : List Cond := u_ws RJ6 TJ6 0
theorem nmJ6 : ∀ a, a < 0 → ∀ b, b < 0 → a ≠ b → (TJ6 a).2.1 ≠ (TJ6 b).2.1 := by decide +kernel
theorem tyJ6_ok : ∀ k, k < 0 → parseFieldDescriptor (TJ6 k).2.2.1 = some (tyJ6 k) := by decide +kernel
abbrev cJ6_numberOfTrailingZeros_0f7a4 : ByteArray := prog_8_method_48_code
def yJ6_numberOfTrailingZeros_0f7a4 : MethodName := ⟨RJ6, "numberOfTrailingZeros", "(I)I"⟩
abbrev cJ6_bitCount_0f7a4 : ByteArray := prog_8_method_49_code
def yJ6_bitCount_0f7a4 : MethodName := ⟨RJ6, "bitCount", "(I)I"⟩
def RJ9 : String := "java/lang/Math"
def TJ9 : u_T := fun k => match k with
  | _ => ("", "", "", false)
def tyJ9 : Nat → FieldType := fun k => match k with
  | _ => .int
abbrev wsJ90 : List Cond := u_ws RJ9 TJ9 0
theorem nmJ9 : ∀ a, a < 0 → ∀ b, b < 0 → a ≠ b → (TJ9 a).2.1 ≠ (TJ9 b).2.1 := by decide +kernel
theorem tyJ9_ok : ∀ k, k < 0 → parseFieldDescriptor (TJ9 k).2.2.1 = some (tyJ9 k) := by decide +kernel
abbrev cJ9_abs_0f7a4 : ByteArray := prog_9_method_59_code
def yJ9_abs_0f7a4 : MethodName := ⟨RJ9, "abs", "(I)I"⟩
abbrev cJ9_max_7cf53 : ByteArray := prog_9_method_65_code
def yJ9_max_7cf53 : MethodName := ⟨RJ9, "max", "(II)I"⟩
abbrev cJ9_min_7cf53 : ByteArray := prog_9_method_69_code
def yJ9_min_7cf53 : MethodName := ⟨RJ9, "min", "(II)I"⟩
def RL : String := "CardHouseLaw"
abbrev cL_law : ByteArray := code
def yL_law : MethodName := ⟨RL, "law", "([I)Z"⟩
abbrev vwCl : List vw_C := [(RX0, TX0, 2), (RX1, TX1, 5), (RX2, TX2, 4), (RX3, TX3, 2), (RX4, TX4, 12), (RX5, TX5, 26)]
end
section
/-- the good words of the tables: every method has these, and its own code -/
def GW : List Cond := lw_tbl.filter goodWord
theorem gw_tbl {w : Cond} (h : w ∈ GW) : w ∈ lw_tbl := (List.mem_filter.mp h).1
theorem gw_in {big : List Cond} {w : Cond} (hb : ∀ x ∈ GW, x ∈ big) (h : w ∈ GW) : w ∈ big ∧ ((w.onTables && w.keeps) = true ∨ ∃ ty, w = .arrayClass ty) := ⟨hb w h, good_of_word (List.mem_filter.mp h).2⟩
theorem gw_t1 {w : Cond} (i : Nat) (h : tables_1_1[i]? = some w) (g : goodWord w = true) : w ∈ GW := List.mem_filter.mpr ⟨List.mem_append_right _ (by have h := List.mem_of_getElem? h; exact List.mem_append_left _ h), g⟩
theorem gw_t2 {w : Cond} (i : Nat) (h : tables_1_2[i]? = some w) (g : goodWord w = true) : w ∈ GW := List.mem_filter.mpr ⟨List.mem_append_right _ (by have h := List.mem_of_getElem? h; exact List.mem_append_right _ (List.mem_append_left _ h)), g⟩
theorem gw_t3 {w : Cond} (i : Nat) (h : tables_1_3[i]? = some w) (g : goodWord w = true) : w ∈ GW := List.mem_filter.mpr ⟨List.mem_append_right _ (by have h := List.mem_of_getElem? h; exact List.mem_append_right _ (List.mem_append_right _ (List.mem_append_left _ h))), g⟩
theorem gw_t4 {w : Cond} (i : Nat) (h : tables_1_4[i]? = some w) (g : goodWord w = true) : w ∈ GW := List.mem_filter.mpr ⟨List.mem_append_right _ (by have h := List.mem_of_getElem? h; exact List.mem_append_right _ (List.mem_append_right _ (List.mem_append_right _ h))), g⟩
theorem gw_s {w : Cond} (i : Nat) (h : (k2_sels lw_privs)[i]? = some w) (g : goodWord w = true) : w ∈ GW := List.mem_filter.mpr ⟨List.mem_append_left _ (List.mem_of_getElem? h), g⟩
theorem w_0 : (Jvm.Cond.initialized "CardHouseLaw") ∈ GW := gw_t1 0 rfl rfl
theorem w_1 : (Jvm.Cond.initialized "CardHouse") ∈ GW := gw_t1 1 rfl rfl
theorem w_2 : (Jvm.Cond.initialized "CardHouse$Text") ∈ GW := gw_t1 2 rfl rfl
theorem w_3 : (Jvm.Cond.initialized "CardHouse$Pile") ∈ GW := gw_t1 3 rfl rfl
theorem w_4 : (Jvm.Cond.initialized "CardHouse$Shelf") ∈ GW := gw_t1 4 rfl rfl
theorem w_5 : (Jvm.Cond.initialized "java/lang/Math") ∈ GW := gw_t1 5 rfl rfl
theorem w_6 : (Jvm.Cond.initialized "CardHouse$Contest") ∈ GW := gw_t1 6 rfl rfl
theorem w_7 : (Jvm.Cond.initialized "CardHouseModel") ∈ GW := gw_t1 7 rfl rfl
theorem w_8 : (Jvm.Cond.initialized "java/lang/Integer") ∈ GW := gw_t1 8 rfl rfl
theorem w_9 : (Jvm.Cond.classLink "CardHouseLaw" (7 : Nat) "CardHouse") ∈ GW := gw_t1 9 rfl rfl
theorem w_10 : (Jvm.Cond.instantiable "CardHouse" (12 : Nat)) ∈ GW := gw_t1 10 rfl rfl
theorem w_11 : (Jvm.Cond.methodLink "CardHouseLaw" (9 : Nat) ({ cls := "CardHouse", name := "<init>", desc := "()V" } : Jvm.MethodName)) ∈ GW := gw_t1 11 rfl rfl
theorem w_12 : (Jvm.Cond.instanceMethod ({ cls := "CardHouse", name := "<init>", desc := "()V" } : Jvm.MethodName)) ∈ GW := gw_t1 12 rfl rfl
theorem w_13 : (Jvm.Cond.code ({ cls := "CardHouse", name := "<init>", desc := "()V" } : Jvm.MethodName) prog_1_method_1_code (1 : Nat) (Option.none : Option Jvm.ClassFile.FieldType)) ∈ GW := gw_t1 13 rfl rfl
theorem w_14 : (Jvm.Cond.methodLink "CardHouse" (1 : Nat) ({ cls := "java/lang/Object", name := "<init>", desc := "()V" } : Jvm.MethodName)) ∈ GW := gw_t1 14 rfl rfl
theorem w_15 : (Jvm.Cond.instanceMethod ({ cls := "java/lang/Object", name := "<init>", desc := "()V" } : Jvm.MethodName)) ∈ GW := gw_t1 15 rfl rfl
theorem w_16 : (Jvm.Cond.code ({ cls := "java/lang/Object", name := "<init>", desc := "()V" } : Jvm.MethodName) object_method_1_code (1 : Nat) (Option.none : Option Jvm.ClassFile.FieldType)) ∈ GW := gw_t1 16 rfl rfl
theorem w_17 : (Jvm.Cond.classLink "CardHouse" (7 : Nat) "CardHouse$Text") ∈ GW := gw_t1 17 rfl rfl
theorem w_18 : (Jvm.Cond.instantiable "CardHouse$Text" (2 : Nat)) ∈ GW := gw_t1 18 rfl rfl
theorem w_19 : (Jvm.Cond.instanceMethod ({ cls := "CardHouse$Text", name := "<init>", desc := "()V" } : Jvm.MethodName)) ∈ GW := gw_t1 20 rfl rfl
theorem w_20 : (Jvm.Cond.code ({ cls := "CardHouse$Text", name := "<init>", desc := "()V" } : Jvm.MethodName) prog_5_method_1_code (1 : Nat) (Option.none : Option Jvm.ClassFile.FieldType)) ∈ GW := gw_t1 21 rfl rfl
theorem w_21 : (Jvm.Cond.methodLink "CardHouse$Text" (3 : Nat) ({ cls := "java/lang/Object", name := "<init>", desc := "()V" } : Jvm.MethodName)) ∈ GW := gw_t1 22 rfl rfl
theorem w_22 : (Jvm.Cond.fieldLink "CardHouse$Text" (9 : Nat) "CardHouse$Text" "letters" "[I") ∈ GW := gw_t1 23 rfl rfl
theorem w_23 : (Jvm.Cond.fieldLink "CardHouse$Text" (15 : Nat) "CardHouse$Text" "length" "I") ∈ GW := gw_t1 24 rfl rfl
theorem w_24 : (Jvm.Cond.laysFinal "CardHouse$Text" "CardHouse$Text" "letters" "[I") ∈ GW := gw_t1 26 rfl rfl
theorem w_25 : (Jvm.Cond.soleField "CardHouse$Text" "letters") ∈ GW := gw_t1 27 rfl rfl
theorem w_26 : (Jvm.Cond.lays "CardHouse$Text" "CardHouse$Text" "length" "I") ∈ GW := gw_t1 28 rfl rfl
theorem w_27 : (Jvm.Cond.soleField "CardHouse$Text" "length") ∈ GW := gw_t1 29 rfl rfl
theorem w_28 : (Jvm.Cond.superclass "CardHouse$Text" "java/lang/Object") ∈ GW := gw_t1 30 rfl rfl
theorem w_29 : (Jvm.Cond.arrayClass Jvm.ClassFile.FieldType.int) ∈ GW := gw_t1 31 rfl rfl
theorem w_30 : (Jvm.Cond.classLink "CardHouse" (16 : Nat) "CardHouse$Pile") ∈ GW := gw_t1 32 rfl rfl
theorem w_31 : (Jvm.Cond.instantiable "CardHouse$Pile" (5 : Nat)) ∈ GW := gw_t1 33 rfl rfl
theorem w_32 : (Jvm.Cond.instanceMethod ({ cls := "CardHouse$Pile", name := "<init>", desc := "()V" } : Jvm.MethodName)) ∈ GW := gw_t1 35 rfl rfl
theorem w_33 : (Jvm.Cond.code ({ cls := "CardHouse$Pile", name := "<init>", desc := "()V" } : Jvm.MethodName) prog_3_method_1_code (1 : Nat) (Option.none : Option Jvm.ClassFile.FieldType)) ∈ GW := gw_t1 36 rfl rfl
theorem w_34 : (Jvm.Cond.methodLink "CardHouse$Pile" (3 : Nat) ({ cls := "java/lang/Object", name := "<init>", desc := "()V" } : Jvm.MethodName)) ∈ GW := gw_t1 37 rfl rfl
theorem w_35 : (Jvm.Cond.fieldLink "CardHouse$Pile" (18 : Nat) "CardHouse$Pile" "there" "I") ∈ GW := gw_t1 38 rfl rfl
theorem w_36 : (Jvm.Cond.fieldLink "CardHouse$Pile" (22 : Nat) "CardHouse$Pile" "kinds" "I") ∈ GW := gw_t1 41 rfl rfl
theorem w_37 : (Jvm.Cond.fieldLink "CardHouse$Pile" (25 : Nat) "CardHouse$Pile" "fell" "I") ∈ GW := gw_t1 43 rfl rfl
theorem w_38 : (Jvm.Cond.fieldLink "CardHouse$Pile" (9 : Nat) "CardHouse$Pile" "cards" "[I") ∈ GW := gw_t1 46 rfl rfl
theorem w_39 : (Jvm.Cond.fieldLink "CardHouse$Pile" (15 : Nat) "CardHouse$Pile" "loads" "[I") ∈ GW := gw_t1 48 rfl rfl
theorem w_40 : (Jvm.Cond.lays "CardHouse$Pile" "CardHouse$Pile" "there" "I") ∈ GW := gw_t1 49 rfl rfl
theorem w_41 : (Jvm.Cond.soleField "CardHouse$Pile" "there") ∈ GW := gw_t1 50 rfl rfl
theorem w_42 : (Jvm.Cond.lays "CardHouse$Pile" "CardHouse$Pile" "kinds" "I") ∈ GW := gw_t1 51 rfl rfl
theorem w_43 : (Jvm.Cond.soleField "CardHouse$Pile" "kinds") ∈ GW := gw_t1 52 rfl rfl
theorem w_44 : (Jvm.Cond.lays "CardHouse$Pile" "CardHouse$Pile" "fell" "I") ∈ GW := gw_t1 53 rfl rfl
theorem w_45 : (Jvm.Cond.soleField "CardHouse$Pile" "fell") ∈ GW := gw_t1 54 rfl rfl
theorem w_46 : (Jvm.Cond.laysFinal "CardHouse$Pile" "CardHouse$Pile" "cards" "[I") ∈ GW := gw_t1 55 rfl rfl
theorem w_47 : (Jvm.Cond.soleField "CardHouse$Pile" "cards") ∈ GW := gw_t1 56 rfl rfl
theorem w_48 : (Jvm.Cond.laysFinal "CardHouse$Pile" "CardHouse$Pile" "loads" "[I") ∈ GW := gw_t1 57 rfl rfl
theorem w_49 : (Jvm.Cond.soleField "CardHouse$Pile" "loads") ∈ GW := gw_t1 58 rfl rfl
theorem w_50 : (Jvm.Cond.superclass "CardHouse$Pile" "java/lang/Object") ∈ GW := gw_t1 59 rfl rfl
theorem w_51 : (Jvm.Cond.classLink "CardHouse" (26 : Nat) "CardHouse$Shelf") ∈ GW := gw_t1 60 rfl rfl
theorem w_52 : (Jvm.Cond.instantiable "CardHouse$Shelf" (4 : Nat)) ∈ GW := gw_t1 61 rfl rfl
theorem w_53 : (Jvm.Cond.methodLink "CardHouse" (28 : Nat) ({ cls := "CardHouse$Shelf", name := "<init>", desc := "(I)V" } : Jvm.MethodName)) ∈ GW := gw_t1 62 rfl rfl
theorem w_54 : (Jvm.Cond.instanceMethod ({ cls := "CardHouse$Shelf", name := "<init>", desc := "(I)V" } : Jvm.MethodName)) ∈ GW := gw_t1 63 rfl rfl
theorem w_55 : (Jvm.Cond.code ({ cls := "CardHouse$Shelf", name := "<init>", desc := "(I)V" } : Jvm.MethodName) prog_4_method_1_code (2 : Nat) (Option.none : Option Jvm.ClassFile.FieldType)) ∈ GW := gw_t1 64 rfl rfl
theorem w_56 : (Jvm.Cond.methodLink "CardHouse$Shelf" (1 : Nat) ({ cls := "java/lang/Object", name := "<init>", desc := "()V" } : Jvm.MethodName)) ∈ GW := gw_t1 65 rfl rfl
theorem w_57 : (Jvm.Cond.methodLink "CardHouse$Shelf" (7 : Nat) ({ cls := "java/lang/Math", name := "max", desc := "(II)I" } : Jvm.MethodName)) ∈ GW := gw_t1 66 rfl rfl
theorem w_58 : (Jvm.Cond.static ({ cls := "java/lang/Math", name := "max", desc := "(II)I" } : Jvm.MethodName)) ∈ GW := gw_t1 67 rfl rfl
theorem w_59 : (Jvm.Cond.code ({ cls := "java/lang/Math", name := "max", desc := "(II)I" } : Jvm.MethodName) prog_9_method_65_code (2 : Nat) (Option.some Jvm.ClassFile.FieldType.int)) ∈ GW := gw_t1 68 rfl rfl
theorem w_60 : (Jvm.Cond.fieldLink "CardHouse$Shelf" (13 : Nat) "CardHouse$Shelf" "size" "I") ∈ GW := gw_t1 69 rfl rfl
theorem w_61 : (Jvm.Cond.fieldLink "CardHouse$Shelf" (19 : Nat) "CardHouse$Shelf" "there" "[I") ∈ GW := gw_t1 70 rfl rfl
theorem w_62 : (Jvm.Cond.fieldLink "CardHouse$Shelf" (23 : Nat) "CardHouse$Shelf" "kinds" "[I") ∈ GW := gw_t1 71 rfl rfl
theorem w_63 : (Jvm.Cond.fieldLink "CardHouse$Shelf" (26 : Nat) "CardHouse$Shelf" "fell" "[I") ∈ GW := gw_t1 72 rfl rfl
theorem w_64 : (Jvm.Cond.laysFinal "CardHouse$Shelf" "CardHouse$Shelf" "size" "I") ∈ GW := gw_t1 73 rfl rfl
theorem w_65 : (Jvm.Cond.soleField "CardHouse$Shelf" "size") ∈ GW := gw_t1 74 rfl rfl
theorem w_66 : (Jvm.Cond.laysFinal "CardHouse$Shelf" "CardHouse$Shelf" "there" "[I") ∈ GW := gw_t1 75 rfl rfl
theorem w_67 : (Jvm.Cond.soleField "CardHouse$Shelf" "there") ∈ GW := gw_t1 76 rfl rfl
theorem w_68 : (Jvm.Cond.laysFinal "CardHouse$Shelf" "CardHouse$Shelf" "kinds" "[I") ∈ GW := gw_t1 77 rfl rfl
theorem w_69 : (Jvm.Cond.soleField "CardHouse$Shelf" "kinds") ∈ GW := gw_t1 78 rfl rfl
theorem w_70 : (Jvm.Cond.laysFinal "CardHouse$Shelf" "CardHouse$Shelf" "fell" "[I") ∈ GW := gw_t1 79 rfl rfl
theorem w_71 : (Jvm.Cond.soleField "CardHouse$Shelf" "fell") ∈ GW := gw_t1 80 rfl rfl
theorem w_72 : (Jvm.Cond.superclass "CardHouse$Shelf" "java/lang/Object") ∈ GW := gw_t1 81 rfl rfl
theorem w_73 : (Jvm.Cond.classLink "CardHouse" (38 : Nat) "CardHouse$Contest") ∈ GW := gw_t1 82 rfl rfl
theorem w_74 : (Jvm.Cond.instantiable "CardHouse$Contest" (2 : Nat)) ∈ GW := gw_t1 83 rfl rfl
theorem w_75 : (Jvm.Cond.instanceMethod ({ cls := "CardHouse$Contest", name := "<init>", desc := "()V" } : Jvm.MethodName)) ∈ GW := gw_t1 85 rfl rfl
theorem w_76 : (Jvm.Cond.code ({ cls := "CardHouse$Contest", name := "<init>", desc := "()V" } : Jvm.MethodName) prog_2_method_1_code (1 : Nat) (Option.none : Option Jvm.ClassFile.FieldType)) ∈ GW := gw_t1 86 rfl rfl
theorem w_77 : (Jvm.Cond.methodLink "CardHouse$Contest" (3 : Nat) ({ cls := "java/lang/Object", name := "<init>", desc := "()V" } : Jvm.MethodName)) ∈ GW := gw_t1 87 rfl rfl
theorem w_78 : (Jvm.Cond.fieldLink "CardHouse$Contest" (9 : Nat) "CardHouse$Contest" "firstHas" "[I") ∈ GW := gw_t1 88 rfl rfl
theorem w_79 : (Jvm.Cond.fieldLink "CardHouse$Contest" (15 : Nat) "CardHouse$Contest" "secondHas" "[I") ∈ GW := gw_t1 89 rfl rfl
theorem w_80 : (Jvm.Cond.laysFinal "CardHouse$Contest" "CardHouse$Contest" "firstHas" "[I") ∈ GW := gw_t1 90 rfl rfl
theorem w_81 : (Jvm.Cond.soleField "CardHouse$Contest" "firstHas") ∈ GW := gw_t1 91 rfl rfl
theorem w_82 : (Jvm.Cond.laysFinal "CardHouse$Contest" "CardHouse$Contest" "secondHas" "[I") ∈ GW := gw_t1 92 rfl rfl
theorem w_83 : (Jvm.Cond.soleField "CardHouse$Contest" "secondHas") ∈ GW := gw_t1 93 rfl rfl
theorem w_84 : (Jvm.Cond.superclass "CardHouse$Contest" "java/lang/Object") ∈ GW := gw_t1 94 rfl rfl
theorem w_85 : (Jvm.Cond.fieldLink "CardHouse" (10 : Nat) "CardHouse" "text" "LCardHouse$Text;") ∈ GW := gw_t1 95 rfl rfl
theorem w_86 : (Jvm.Cond.fieldLink "CardHouse" (19 : Nat) "CardHouse" "now" "LCardHouse$Pile;") ∈ GW := gw_t1 96 rfl rfl
theorem w_87 : (Jvm.Cond.fieldLink "CardHouse" (23 : Nat) "CardHouse" "trial" "LCardHouse$Pile;") ∈ GW := gw_t1 97 rfl rfl
theorem w_88 : (Jvm.Cond.fieldLink "CardHouse" (31 : Nat) "CardHouse" "acts" "LCardHouse$Shelf;") ∈ GW := gw_t1 98 rfl rfl
theorem w_89 : (Jvm.Cond.fieldLink "CardHouse" (35 : Nat) "CardHouse" "slots" "LCardHouse$Shelf;") ∈ GW := gw_t1 99 rfl rfl
theorem w_90 : (Jvm.Cond.fieldLink "CardHouse" (41 : Nat) "CardHouse" "contest" "LCardHouse$Contest;") ∈ GW := gw_t1 100 rfl rfl
theorem w_91 : (Jvm.Cond.fieldLink "CardHouse" (73 : Nat) "CardHouse" "actCount" "I") ∈ GW := gw_t1 101 rfl rfl
theorem w_92 : (Jvm.Cond.fieldLink "CardHouse" (76 : Nat) "CardHouse" "keptSlots" "I") ∈ GW := gw_t1 102 rfl rfl
theorem w_93 : (Jvm.Cond.fieldLink "CardHouse" (91 : Nat) "CardHouse" "heldCount" "I") ∈ GW := gw_t1 103 rfl rfl
theorem w_94 : (Jvm.Cond.fieldLink "CardHouse" (45 : Nat) "CardHouse" "oneKinds" "I") ∈ GW := gw_t1 104 rfl rfl
theorem w_95 : (Jvm.Cond.fieldLink "CardHouse" (49 : Nat) "CardHouse" "otherKinds" "I") ∈ GW := gw_t1 105 rfl rfl
theorem w_96 : (Jvm.Cond.fieldLink "CardHouse" (231 : Nat) "CardHouse" "theSeed" "J") ∈ GW := gw_t1 106 rfl rfl
theorem w_97 : (Jvm.Cond.laysFinal "CardHouse" "CardHouse" "text" "LCardHouse$Text;") ∈ GW := gw_t1 107 rfl rfl
theorem w_98 : (Jvm.Cond.soleField "CardHouse" "text") ∈ GW := gw_t1 108 rfl rfl
theorem w_99 : (Jvm.Cond.laysFinal "CardHouse" "CardHouse" "now" "LCardHouse$Pile;") ∈ GW := gw_t1 109 rfl rfl
theorem w_100 : (Jvm.Cond.soleField "CardHouse" "now") ∈ GW := gw_t1 110 rfl rfl
theorem w_101 : (Jvm.Cond.laysFinal "CardHouse" "CardHouse" "trial" "LCardHouse$Pile;") ∈ GW := gw_t1 111 rfl rfl
theorem w_102 : (Jvm.Cond.soleField "CardHouse" "trial") ∈ GW := gw_t1 112 rfl rfl
theorem w_103 : (Jvm.Cond.laysFinal "CardHouse" "CardHouse" "acts" "LCardHouse$Shelf;") ∈ GW := gw_t1 113 rfl rfl
theorem w_104 : (Jvm.Cond.soleField "CardHouse" "acts") ∈ GW := gw_t1 114 rfl rfl
theorem w_105 : (Jvm.Cond.laysFinal "CardHouse" "CardHouse" "slots" "LCardHouse$Shelf;") ∈ GW := gw_t1 115 rfl rfl
theorem w_106 : (Jvm.Cond.soleField "CardHouse" "slots") ∈ GW := gw_t1 116 rfl rfl
theorem w_107 : (Jvm.Cond.laysFinal "CardHouse" "CardHouse" "contest" "LCardHouse$Contest;") ∈ GW := gw_t1 117 rfl rfl
theorem w_108 : (Jvm.Cond.soleField "CardHouse" "contest") ∈ GW := gw_t1 118 rfl rfl
theorem w_109 : (Jvm.Cond.lays "CardHouse" "CardHouse" "actCount" "I") ∈ GW := gw_t1 119 rfl rfl
theorem w_110 : (Jvm.Cond.soleField "CardHouse" "actCount") ∈ GW := gw_t1 120 rfl rfl
theorem w_111 : (Jvm.Cond.lays "CardHouse" "CardHouse" "keptSlots" "I") ∈ GW := gw_t1 121 rfl rfl
theorem w_112 : (Jvm.Cond.soleField "CardHouse" "keptSlots") ∈ GW := gw_t1 122 rfl rfl
theorem w_113 : (Jvm.Cond.lays "CardHouse" "CardHouse" "heldCount" "I") ∈ GW := gw_t1 123 rfl rfl
theorem w_114 : (Jvm.Cond.soleField "CardHouse" "heldCount") ∈ GW := gw_t1 124 rfl rfl
theorem w_115 : (Jvm.Cond.lays "CardHouse" "CardHouse" "oneKinds" "I") ∈ GW := gw_t1 125 rfl rfl
theorem w_116 : (Jvm.Cond.soleField "CardHouse" "oneKinds") ∈ GW := gw_t1 126 rfl rfl
theorem w_117 : (Jvm.Cond.lays "CardHouse" "CardHouse" "otherKinds" "I") ∈ GW := gw_t1 127 rfl rfl
theorem w_118 : (Jvm.Cond.soleField "CardHouse" "otherKinds") ∈ GW := gw_t1 128 rfl rfl
theorem w_119 : (Jvm.Cond.lays "CardHouse" "CardHouse" "theSeed" "J") ∈ GW := gw_t1 129 rfl rfl
theorem w_120 : (Jvm.Cond.soleField "CardHouse" "theSeed") ∈ GW := gw_t1 130 rfl rfl
theorem w_121 : (Jvm.Cond.superclass "CardHouse" "java/lang/Object") ∈ GW := gw_t1 131 rfl rfl
theorem w_122 : (Jvm.Cond.methodLink "CardHouseLaw" (13 : Nat) ({ cls := "CardHouse", name := "write", desc := "(I)I" } : Jvm.MethodName)) ∈ GW := gw_t1 132 rfl rfl
theorem w_123 : (Jvm.Cond.instanceMethod ({ cls := "CardHouse", name := "write", desc := "(I)I" } : Jvm.MethodName)) ∈ GW := gw_t1 133 rfl rfl
theorem w_124 : (Jvm.Cond.selects "CardHouse" ({ cls := "CardHouse", name := "write", desc := "(I)I" } : Jvm.MethodName) ({ cls := "CardHouse", name := "write", desc := "(I)I" } : Jvm.MethodName)) ∈ GW := gw_t1 134 rfl rfl
theorem w_125 : (Jvm.Cond.code ({ cls := "CardHouse", name := "write", desc := "(I)I" } : Jvm.MethodName) prog_1_method_2_code (2 : Nat) (Option.some Jvm.ClassFile.FieldType.int)) ∈ GW := gw_t1 135 rfl rfl
theorem w_126 : (Jvm.Cond.methodLink "CardHouse" (55 : Nat) ({ cls := "CardHouse$Text", name := "append", desc := "(I)V" } : Jvm.MethodName)) ∈ GW := gw_t1 136 rfl rfl
theorem w_127 : (Jvm.Cond.instanceMethod ({ cls := "CardHouse$Text", name := "append", desc := "(I)V" } : Jvm.MethodName)) ∈ GW := gw_t1 137 rfl rfl
theorem w_128 : (Jvm.Cond.selects "CardHouse$Text" ({ cls := "CardHouse$Text", name := "append", desc := "(I)V" } : Jvm.MethodName) ({ cls := "CardHouse$Text", name := "append", desc := "(I)V" } : Jvm.MethodName)) ∈ GW := gw_t1 138 rfl rfl
theorem w_129 : (Jvm.Cond.code ({ cls := "CardHouse$Text", name := "append", desc := "(I)V" } : Jvm.MethodName) prog_5_method_2_code (2 : Nat) (Option.none : Option Jvm.ClassFile.FieldType)) ∈ GW := gw_t1 139 rfl rfl
theorem w_130 : (Jvm.Cond.methodLink "CardHouseLaw" (18 : Nat) ({ cls := "CardHouse", name := "wipe", desc := "()I" } : Jvm.MethodName)) ∈ GW := gw_t1 140 rfl rfl
theorem w_131 : (Jvm.Cond.instanceMethod ({ cls := "CardHouse", name := "wipe", desc := "()I" } : Jvm.MethodName)) ∈ GW := gw_t1 141 rfl rfl
theorem w_132 : (Jvm.Cond.selects "CardHouse" ({ cls := "CardHouse", name := "wipe", desc := "()I" } : Jvm.MethodName) ({ cls := "CardHouse", name := "wipe", desc := "()I" } : Jvm.MethodName)) ∈ GW := gw_t1 142 rfl rfl
theorem w_133 : (Jvm.Cond.code ({ cls := "CardHouse", name := "wipe", desc := "()I" } : Jvm.MethodName) prog_1_method_3_code (2 : Nat) (Option.some Jvm.ClassFile.FieldType.int)) ∈ GW := gw_t1 143 rfl rfl
theorem w_134 : (Jvm.Cond.methodLink "CardHouseLaw" (23 : Nat) ({ cls := "CardHouse", name := "fault", desc := "()I" } : Jvm.MethodName)) ∈ GW := gw_t1 144 rfl rfl
theorem w_135 : (Jvm.Cond.instanceMethod ({ cls := "CardHouse", name := "fault", desc := "()I" } : Jvm.MethodName)) ∈ GW := gw_t1 145 rfl rfl
theorem w_136 : (Jvm.Cond.selects "CardHouse" ({ cls := "CardHouse", name := "fault", desc := "()I" } : Jvm.MethodName) ({ cls := "CardHouse", name := "fault", desc := "()I" } : Jvm.MethodName)) ∈ GW := gw_t1 146 rfl rfl
theorem w_137 : (Jvm.Cond.code ({ cls := "CardHouse", name := "fault", desc := "()I" } : Jvm.MethodName) prog_1_method_4_code (1 : Nat) (Option.some Jvm.ClassFile.FieldType.int)) ∈ GW := gw_t1 147 rfl rfl
theorem w_138 : (Jvm.Cond.methodLink "CardHouse" (58 : Nat) ({ cls := "CardHouse$Text", name := "readInto", desc := "(LCardHouse$Pile;)I" } : Jvm.MethodName)) ∈ GW := gw_t1 148 rfl rfl
theorem w_139 : (Jvm.Cond.instanceMethod ({ cls := "CardHouse$Text", name := "readInto", desc := "(LCardHouse$Pile;)I" } : Jvm.MethodName)) ∈ GW := gw_t1 149 rfl rfl
theorem w_140 : (Jvm.Cond.selects "CardHouse$Text" ({ cls := "CardHouse$Text", name := "readInto", desc := "(LCardHouse$Pile;)I" } : Jvm.MethodName) ({ cls := "CardHouse$Text", name := "readInto", desc := "(LCardHouse$Pile;)I" } : Jvm.MethodName)) ∈ GW := gw_t1 150 rfl rfl
theorem w_141 : (Jvm.Cond.code ({ cls := "CardHouse$Text", name := "readInto", desc := "(LCardHouse$Pile;)I" } : Jvm.MethodName) prog_5_method_3_code (3 : Nat) (Option.some Jvm.ClassFile.FieldType.int)) ∈ GW := gw_t1 151 rfl rfl
theorem w_142 : (Jvm.Cond.methodLink "CardHouse$Text" (19 : Nat) ({ cls := "CardHouse$Pile", name := "clear", desc := "()V" } : Jvm.MethodName)) ∈ GW := gw_t1 152 rfl rfl
theorem w_143 : (Jvm.Cond.instanceMethod ({ cls := "CardHouse$Pile", name := "clear", desc := "()V" } : Jvm.MethodName)) ∈ GW := gw_t1 153 rfl rfl
theorem w_144 : (Jvm.Cond.selects "CardHouse$Pile" ({ cls := "CardHouse$Pile", name := "clear", desc := "()V" } : Jvm.MethodName) ({ cls := "CardHouse$Pile", name := "clear", desc := "()V" } : Jvm.MethodName)) ∈ GW := gw_t1 154 rfl rfl
theorem w_145 : (Jvm.Cond.code ({ cls := "CardHouse$Pile", name := "clear", desc := "()V" } : Jvm.MethodName) prog_3_method_2_code (2 : Nat) (Option.none : Option Jvm.ClassFile.FieldType)) ∈ GW := gw_t1 155 rfl rfl
theorem w_146 : (Jvm.Cond.methodLink "CardHouse$Text" (24 : Nat) ({ cls := "CardHouse$Text", name := "readLetter", desc := "(LCardHouse$Pile;II)Z" } : Jvm.MethodName)) ∈ GW := gw_t1 156 rfl rfl
theorem w_147 : (Jvm.Cond.instanceMethod ({ cls := "CardHouse$Text", name := "readLetter", desc := "(LCardHouse$Pile;II)Z" } : Jvm.MethodName)) ∈ GW := gw_t1 158 rfl rfl
theorem w_148 : (Jvm.Cond.code ({ cls := "CardHouse$Text", name := "readLetter", desc := "(LCardHouse$Pile;II)Z" } : Jvm.MethodName) prog_5_method_4_code (4 : Nat) (Option.some Jvm.ClassFile.FieldType.boolean)) ∈ GW := gw_t1 159 rfl rfl
theorem w_149 : (Jvm.Cond.methodLink "CardHouse$Text" (28 : Nat) ({ cls := "CardHouse$Text", name := "readFigure", desc := "(LCardHouse$Pile;II)Z" } : Jvm.MethodName)) ∈ GW := gw_t1 160 rfl rfl
theorem w_150 : (Jvm.Cond.static ({ cls := "CardHouse$Text", name := "readFigure", desc := "(LCardHouse$Pile;II)Z" } : Jvm.MethodName)) ∈ GW := gw_t1 161 rfl rfl
theorem w_151 : (Jvm.Cond.code ({ cls := "CardHouse$Text", name := "readFigure", desc := "(LCardHouse$Pile;II)Z" } : Jvm.MethodName) prog_5_method_5_code (3 : Nat) (Option.some Jvm.ClassFile.FieldType.boolean)) ∈ GW := gw_t1 162 rfl rfl
theorem w_152 : (Jvm.Cond.static ({ cls := "CardHouse", name := "isKind", desc := "(I)Z" } : Jvm.MethodName)) ∈ GW := gw_t1 164 rfl rfl
theorem w_153 : (Jvm.Cond.code ({ cls := "CardHouse", name := "isKind", desc := "(I)Z" } : Jvm.MethodName) prog_1_method_36_code (1 : Nat) (Option.some Jvm.ClassFile.FieldType.boolean)) ∈ GW := gw_t1 165 rfl rfl
theorem w_154 : (Jvm.Cond.methodLink "CardHouse$Text" (31 : Nat) ({ cls := "CardHouse$Text", name := "canAnyBeTold", desc := "(LCardHouse$Pile;)Z" } : Jvm.MethodName)) ∈ GW := gw_t1 166 rfl rfl
theorem w_155 : (Jvm.Cond.static ({ cls := "CardHouse$Text", name := "canAnyBeTold", desc := "(LCardHouse$Pile;)Z" } : Jvm.MethodName)) ∈ GW := gw_t1 167 rfl rfl
theorem w_156 : (Jvm.Cond.code ({ cls := "CardHouse$Text", name := "canAnyBeTold", desc := "(LCardHouse$Pile;)Z" } : Jvm.MethodName) prog_5_method_6_code (3 : Nat) (Option.some Jvm.ClassFile.FieldType.boolean)) ∈ GW := gw_t1 168 rfl rfl
theorem w_157 : (Jvm.Cond.methodLink "CardHouse$Text" (35 : Nat) ({ cls := "CardHouse$Pile", name := "mostCardsLeft", desc := "()I" } : Jvm.MethodName)) ∈ GW := gw_t1 169 rfl rfl
theorem w_158 : (Jvm.Cond.instanceMethod ({ cls := "CardHouse$Pile", name := "mostCardsLeft", desc := "()I" } : Jvm.MethodName)) ∈ GW := gw_t1 170 rfl rfl
theorem w_159 : (Jvm.Cond.selects "CardHouse$Pile" ({ cls := "CardHouse$Pile", name := "mostCardsLeft", desc := "()I" } : Jvm.MethodName) ({ cls := "CardHouse$Pile", name := "mostCardsLeft", desc := "()I" } : Jvm.MethodName)) ∈ GW := gw_t1 171 rfl rfl
theorem w_160 : (Jvm.Cond.code ({ cls := "CardHouse$Pile", name := "mostCardsLeft", desc := "()I" } : Jvm.MethodName) prog_3_method_10_code (3 : Nat) (Option.some Jvm.ClassFile.FieldType.int)) ∈ GW := gw_t1 172 rfl rfl
theorem w_161 : (Jvm.Cond.methodLink "CardHouse$Pile" (53 : Nat) ({ cls := "CardHouse$Pile", name := "cardsLeft", desc := "(I)I" } : Jvm.MethodName)) ∈ GW := gw_t1 173 rfl rfl
theorem w_162 : (Jvm.Cond.instanceMethod ({ cls := "CardHouse$Pile", name := "cardsLeft", desc := "(I)I" } : Jvm.MethodName)) ∈ GW := gw_t1 174 rfl rfl
theorem w_163 : (Jvm.Cond.selects "CardHouse$Pile" ({ cls := "CardHouse$Pile", name := "cardsLeft", desc := "(I)I" } : Jvm.MethodName) ({ cls := "CardHouse$Pile", name := "cardsLeft", desc := "(I)I" } : Jvm.MethodName)) ∈ GW := gw_t1 175 rfl rfl
theorem w_164 : (Jvm.Cond.code ({ cls := "CardHouse$Pile", name := "cardsLeft", desc := "(I)I" } : Jvm.MethodName) prog_3_method_9_code (4 : Nat) (Option.some Jvm.ClassFile.FieldType.int)) ∈ GW := gw_t1 176 rfl rfl
theorem w_165 : (Jvm.Cond.methodLink "CardHouse$Pile" (43 : Nat) ({ cls := "CardHouse$Pile", name := "has", desc := "(I)Z" } : Jvm.MethodName)) ∈ GW := gw_t1 178 rfl rfl
theorem w_166 : (Jvm.Cond.instanceMethod ({ cls := "CardHouse$Pile", name := "has", desc := "(I)Z" } : Jvm.MethodName)) ∈ GW := gw_t1 179 rfl rfl
theorem w_167 : (Jvm.Cond.selects "CardHouse$Pile" ({ cls := "CardHouse$Pile", name := "has", desc := "(I)Z" } : Jvm.MethodName) ({ cls := "CardHouse$Pile", name := "has", desc := "(I)Z" } : Jvm.MethodName)) ∈ GW := gw_t1 180 rfl rfl
theorem w_168 : (Jvm.Cond.code ({ cls := "CardHouse$Pile", name := "has", desc := "(I)Z" } : Jvm.MethodName) prog_3_method_5_code (2 : Nat) (Option.some Jvm.ClassFile.FieldType.boolean)) ∈ GW := gw_t1 181 rfl rfl
theorem w_169 : (Jvm.Cond.methodLink "CardHouse$Pile" (37 : Nat) ({ cls := "CardHouse$Pile", name := "kindOf", desc := "(I)I" } : Jvm.MethodName)) ∈ GW := gw_t1 182 rfl rfl
theorem w_170 : (Jvm.Cond.instanceMethod ({ cls := "CardHouse$Pile", name := "kindOf", desc := "(I)I" } : Jvm.MethodName)) ∈ GW := gw_t1 183 rfl rfl
theorem w_171 : (Jvm.Cond.selects "CardHouse$Pile" ({ cls := "CardHouse$Pile", name := "kindOf", desc := "(I)I" } : Jvm.MethodName) ({ cls := "CardHouse$Pile", name := "kindOf", desc := "(I)I" } : Jvm.MethodName)) ∈ GW := gw_t1 184 rfl rfl
theorem w_172 : (Jvm.Cond.code ({ cls := "CardHouse$Pile", name := "kindOf", desc := "(I)I" } : Jvm.MethodName) prog_3_method_6_code (2 : Nat) (Option.some Jvm.ClassFile.FieldType.int)) ∈ GW := gw_t1 185 rfl rfl
theorem w_173 : (Jvm.Cond.static ({ cls := "CardHouse", name := "cardsOf", desc := "(I)I" } : Jvm.MethodName)) ∈ GW := gw_t1 187 rfl rfl
theorem w_174 : (Jvm.Cond.code ({ cls := "CardHouse", name := "cardsOf", desc := "(I)I" } : Jvm.MethodName) prog_1_method_40_code (1 : Nat) (Option.some Jvm.ClassFile.FieldType.int)) ∈ GW := gw_t1 188 rfl rfl
theorem w_175 : (Jvm.Cond.constant "CardHouse" (177 : Nat) (45967 : Int32)) ∈ GW := gw_t1 189 rfl rfl
theorem w_176 : (Jvm.Cond.methodLink "CardHouse$Pile" (56 : Nat) ({ cls := "java/lang/Math", name := "max", desc := "(II)I" } : Jvm.MethodName)) ∈ GW := gw_t1 190 rfl rfl
theorem w_177 : (Jvm.Cond.methodLink "CardHouse$Text" (39 : Nat) ({ cls := "CardHouse$Text", name := "canBeTold", desc := "(LCardHouse$Pile;II)Z" } : Jvm.MethodName)) ∈ GW := gw_t1 191 rfl rfl
theorem w_178 : (Jvm.Cond.static ({ cls := "CardHouse$Text", name := "canBeTold", desc := "(LCardHouse$Pile;II)Z" } : Jvm.MethodName)) ∈ GW := gw_t1 192 rfl rfl
theorem w_179 : (Jvm.Cond.code ({ cls := "CardHouse$Text", name := "canBeTold", desc := "(LCardHouse$Pile;II)Z" } : Jvm.MethodName) prog_5_method_7_code (3 : Nat) (Option.some Jvm.ClassFile.FieldType.boolean)) ∈ GW := gw_t1 193 rfl rfl
theorem w_180 : (Jvm.Cond.methodLink "CardHouse$Text" (52 : Nat) ({ cls := "CardHouse$Pile", name := "hasRoomFor", desc := "(I)Z" } : Jvm.MethodName)) ∈ GW := gw_t1 194 rfl rfl
theorem w_181 : (Jvm.Cond.instanceMethod ({ cls := "CardHouse$Pile", name := "hasRoomFor", desc := "(I)Z" } : Jvm.MethodName)) ∈ GW := gw_t1 195 rfl rfl
theorem w_182 : (Jvm.Cond.selects "CardHouse$Pile" ({ cls := "CardHouse$Pile", name := "hasRoomFor", desc := "(I)Z" } : Jvm.MethodName) ({ cls := "CardHouse$Pile", name := "hasRoomFor", desc := "(I)Z" } : Jvm.MethodName)) ∈ GW := gw_t1 196 rfl rfl
theorem w_183 : (Jvm.Cond.code ({ cls := "CardHouse$Pile", name := "hasRoomFor", desc := "(I)Z" } : Jvm.MethodName) prog_3_method_11_code (2 : Nat) (Option.some Jvm.ClassFile.FieldType.boolean)) ∈ GW := gw_t1 197 rfl rfl
theorem w_184 : (Jvm.Cond.static ({ cls := "CardHouse", name := "isPiece", desc := "(I)Z" } : Jvm.MethodName)) ∈ GW := gw_t1 199 rfl rfl
theorem w_185 : (Jvm.Cond.code ({ cls := "CardHouse", name := "isPiece", desc := "(I)Z" } : Jvm.MethodName) prog_1_method_35_code (1 : Nat) (Option.some Jvm.ClassFile.FieldType.boolean)) ∈ GW := gw_t1 200 rfl rfl
theorem w_186 : (Jvm.Cond.methodLink "CardHouse$Text" (42 : Nat) ({ cls := "CardHouse$Text", name := "readKind", desc := "(LCardHouse$Pile;II)Z" } : Jvm.MethodName)) ∈ GW := gw_t1 204 rfl rfl
theorem w_187 : (Jvm.Cond.static ({ cls := "CardHouse$Text", name := "readKind", desc := "(LCardHouse$Pile;II)Z" } : Jvm.MethodName)) ∈ GW := gw_t1 205 rfl rfl
theorem w_188 : (Jvm.Cond.code ({ cls := "CardHouse$Text", name := "readKind", desc := "(LCardHouse$Pile;II)Z" } : Jvm.MethodName) prog_5_method_8_code (3 : Nat) (Option.some Jvm.ClassFile.FieldType.boolean)) ∈ GW := gw_t1 206 rfl rfl
theorem w_189 : (Jvm.Cond.methodLink "CardHouse$Text" (59 : Nat) ({ cls := "CardHouse$Pile", name := "canLay", desc := "(II)Z" } : Jvm.MethodName)) ∈ GW := gw_t1 207 rfl rfl
theorem w_190 : (Jvm.Cond.instanceMethod ({ cls := "CardHouse$Pile", name := "canLay", desc := "(II)Z" } : Jvm.MethodName)) ∈ GW := gw_t1 208 rfl rfl
theorem w_191 : (Jvm.Cond.selects "CardHouse$Pile" ({ cls := "CardHouse$Pile", name := "canLay", desc := "(II)Z" } : Jvm.MethodName) ({ cls := "CardHouse$Pile", name := "canLay", desc := "(II)Z" } : Jvm.MethodName)) ∈ GW := gw_t1 209 rfl rfl
theorem w_192 : (Jvm.Cond.code ({ cls := "CardHouse$Pile", name := "canLay", desc := "(II)Z" } : Jvm.MethodName) prog_3_method_12_code (3 : Nat) (Option.some Jvm.ClassFile.FieldType.boolean)) ∈ GW := gw_t1 210 rfl rfl
theorem w_193 : (Jvm.Cond.methodLink "CardHouse$Pile" (68 : Nat) ({ cls := "CardHouse$Pile", name := "hasRoomFor", desc := "(I)Z" } : Jvm.MethodName)) ∈ GW := gw_t1 211 rfl rfl
theorem w_194 : (Jvm.Cond.methodLink "CardHouse$Text" (63 : Nat) ({ cls := "CardHouse$Pile", name := "place", desc := "(II)V" } : Jvm.MethodName)) ∈ GW := gw_t1 212 rfl rfl
theorem w_195 : (Jvm.Cond.instanceMethod ({ cls := "CardHouse$Pile", name := "place", desc := "(II)V" } : Jvm.MethodName)) ∈ GW := gw_t1 213 rfl rfl
theorem w_196 : (Jvm.Cond.selects "CardHouse$Pile" ({ cls := "CardHouse$Pile", name := "place", desc := "(II)V" } : Jvm.MethodName) ({ cls := "CardHouse$Pile", name := "place", desc := "(II)V" } : Jvm.MethodName)) ∈ GW := gw_t1 214 rfl rfl
theorem w_197 : (Jvm.Cond.code ({ cls := "CardHouse$Pile", name := "place", desc := "(II)V" } : Jvm.MethodName) prog_3_method_13_code (3 : Nat) (Option.none : Option Jvm.ClassFile.FieldType)) ∈ GW := gw_t1 215 rfl rfl
theorem w_198 : (Jvm.Cond.methodLink "CardHouseLaw" (27 : Nat) ({ cls := "CardHouse", name := "house", desc := "()I" } : Jvm.MethodName)) ∈ GW := gw_t1 216 rfl rfl
theorem w_199 : (Jvm.Cond.instanceMethod ({ cls := "CardHouse", name := "house", desc := "()I" } : Jvm.MethodName)) ∈ GW := gw_t1 217 rfl rfl
theorem w_200 : (Jvm.Cond.selects "CardHouse" ({ cls := "CardHouse", name := "house", desc := "()I" } : Jvm.MethodName) ({ cls := "CardHouse", name := "house", desc := "()I" } : Jvm.MethodName)) ∈ GW := gw_t1 218 rfl rfl
theorem w_201 : (Jvm.Cond.code ({ cls := "CardHouse", name := "house", desc := "()I" } : Jvm.MethodName) prog_1_method_5_code (1 : Nat) (Option.some Jvm.ClassFile.FieldType.int)) ∈ GW := gw_t1 219 rfl rfl
theorem w_202 : (Jvm.Cond.methodLink "CardHouse" (62 : Nat) ({ cls := "CardHouse$Pile", name := "settle", desc := "()I" } : Jvm.MethodName)) ∈ GW := gw_t1 220 rfl rfl
theorem w_203 : (Jvm.Cond.instanceMethod ({ cls := "CardHouse$Pile", name := "settle", desc := "()I" } : Jvm.MethodName)) ∈ GW := gw_t1 221 rfl rfl
theorem w_204 : (Jvm.Cond.selects "CardHouse$Pile" ({ cls := "CardHouse$Pile", name := "settle", desc := "()I" } : Jvm.MethodName) ({ cls := "CardHouse$Pile", name := "settle", desc := "()I" } : Jvm.MethodName)) ∈ GW := gw_t1 222 rfl rfl
theorem w_205 : (Jvm.Cond.code ({ cls := "CardHouse$Pile", name := "settle", desc := "()I" } : Jvm.MethodName) prog_3_method_23_code (5 : Nat) (Option.some Jvm.ClassFile.FieldType.int)) ∈ GW := gw_t1 223 rfl rfl
theorem w_206 : (Jvm.Cond.methodLink "CardHouse$Pile" (93 : Nat) ({ cls := "CardHouse$Pile", name := "weigh", desc := "()V" } : Jvm.MethodName)) ∈ GW := gw_t1 224 rfl rfl
theorem w_207 : (Jvm.Cond.instanceMethod ({ cls := "CardHouse$Pile", name := "weigh", desc := "()V" } : Jvm.MethodName)) ∈ GW := gw_t1 226 rfl rfl
theorem w_208 : (Jvm.Cond.code ({ cls := "CardHouse$Pile", name := "weigh", desc := "()V" } : Jvm.MethodName) prog_3_method_29_code (6 : Nat) (Option.none : Option Jvm.ClassFile.FieldType)) ∈ GW := gw_t1 227 rfl rfl
theorem w_209 : (Jvm.Cond.methodLink "CardHouse$Pile" (126 : Nat) ({ cls := "CardHouse$Pile", name := "weightOf", desc := "(I)I" } : Jvm.MethodName)) ∈ GW := gw_t1 228 rfl rfl
theorem w_210 : (Jvm.Cond.instanceMethod ({ cls := "CardHouse$Pile", name := "weightOf", desc := "(I)I" } : Jvm.MethodName)) ∈ GW := gw_t1 229 rfl rfl
theorem w_211 : (Jvm.Cond.selects "CardHouse$Pile" ({ cls := "CardHouse$Pile", name := "weightOf", desc := "(I)I" } : Jvm.MethodName) ({ cls := "CardHouse$Pile", name := "weightOf", desc := "(I)I" } : Jvm.MethodName)) ∈ GW := gw_t1 230 rfl rfl
theorem w_212 : (Jvm.Cond.code ({ cls := "CardHouse$Pile", name := "weightOf", desc := "(I)I" } : Jvm.MethodName) prog_3_method_7_code (2 : Nat) (Option.some Jvm.ClassFile.FieldType.int)) ∈ GW := gw_t1 231 rfl rfl
theorem w_213 : (Jvm.Cond.static ({ cls := "CardHouse", name := "cardWeight", desc := "(I)I" } : Jvm.MethodName)) ∈ GW := gw_t1 233 rfl rfl
theorem w_214 : (Jvm.Cond.code ({ cls := "CardHouse", name := "cardWeight", desc := "(I)I" } : Jvm.MethodName) prog_1_method_41_code (1 : Nat) (Option.some Jvm.ClassFile.FieldType.int)) ∈ GW := gw_t1 234 rfl rfl
theorem w_215 : (Jvm.Cond.methodLink "CardHouse$Pile" (102 : Nat) ({ cls := "CardHouse$Pile", name := "drop", desc := "(I)I" } : Jvm.MethodName)) ∈ GW := gw_t2 1 rfl rfl
theorem w_216 : (Jvm.Cond.instanceMethod ({ cls := "CardHouse$Pile", name := "drop", desc := "(I)I" } : Jvm.MethodName)) ∈ GW := gw_t2 3 rfl rfl
theorem w_217 : (Jvm.Cond.code ({ cls := "CardHouse$Pile", name := "drop", desc := "(I)I" } : Jvm.MethodName) prog_3_method_24_code (4 : Nat) (Option.some Jvm.ClassFile.FieldType.int)) ∈ GW := gw_t2 4 rfl rfl
theorem w_218 : (Jvm.Cond.methodLink "CardHouse$Pile" (83 : Nat) ({ cls := "CardHouse$Pile", name := "goneWith", desc := "(I)I" } : Jvm.MethodName)) ∈ GW := gw_t2 5 rfl rfl
theorem w_219 : (Jvm.Cond.instanceMethod ({ cls := "CardHouse$Pile", name := "goneWith", desc := "(I)I" } : Jvm.MethodName)) ∈ GW := gw_t2 6 rfl rfl
theorem w_220 : (Jvm.Cond.selects "CardHouse$Pile" ({ cls := "CardHouse$Pile", name := "goneWith", desc := "(I)I" } : Jvm.MethodName) ({ cls := "CardHouse$Pile", name := "goneWith", desc := "(I)I" } : Jvm.MethodName)) ∈ GW := gw_t2 7 rfl rfl
theorem w_221 : (Jvm.Cond.code ({ cls := "CardHouse$Pile", name := "goneWith", desc := "(I)I" } : Jvm.MethodName) prog_3_method_25_code (4 : Nat) (Option.some Jvm.ClassFile.FieldType.int)) ∈ GW := gw_t2 8 rfl rfl
theorem w_222 : (Jvm.Cond.methodLink "CardHouse$Pile" (28 : Nat) ({ cls := "java/lang/Integer", name := "bitCount", desc := "(I)I" } : Jvm.MethodName)) ∈ GW := gw_t2 9 rfl rfl
theorem w_223 : (Jvm.Cond.static ({ cls := "java/lang/Integer", name := "bitCount", desc := "(I)I" } : Jvm.MethodName)) ∈ GW := gw_t2 10 rfl rfl
theorem w_224 : (Jvm.Cond.code ({ cls := "java/lang/Integer", name := "bitCount", desc := "(I)I" } : Jvm.MethodName) prog_8_method_49_code (1 : Nat) (Option.some Jvm.ClassFile.FieldType.int)) ∈ GW := gw_t2 11 rfl rfl
theorem w_225 : (Jvm.Cond.constant "java/lang/Integer" (265 : Nat) (1431655765 : Int32)) ∈ GW := gw_t2 12 rfl rfl
theorem w_226 : (Jvm.Cond.constant "java/lang/Integer" (266 : Nat) (858993459 : Int32)) ∈ GW := gw_t2 13 rfl rfl
theorem w_227 : (Jvm.Cond.constant "java/lang/Integer" (267 : Nat) (252645135 : Int32)) ∈ GW := gw_t2 14 rfl rfl
theorem w_228 : (Jvm.Cond.methodLink "CardHouse" (69 : Nat) ({ cls := "CardHouse$Pile", name := "copyFrom", desc := "(LCardHouse$Pile;)V" } : Jvm.MethodName)) ∈ GW := gw_t2 15 rfl rfl
theorem w_229 : (Jvm.Cond.instanceMethod ({ cls := "CardHouse$Pile", name := "copyFrom", desc := "(LCardHouse$Pile;)V" } : Jvm.MethodName)) ∈ GW := gw_t2 16 rfl rfl
theorem w_230 : (Jvm.Cond.selects "CardHouse$Pile" ({ cls := "CardHouse$Pile", name := "copyFrom", desc := "(LCardHouse$Pile;)V" } : Jvm.MethodName) ({ cls := "CardHouse$Pile", name := "copyFrom", desc := "(LCardHouse$Pile;)V" } : Jvm.MethodName)) ∈ GW := gw_t2 17 rfl rfl
theorem w_231 : (Jvm.Cond.code ({ cls := "CardHouse$Pile", name := "copyFrom", desc := "(LCardHouse$Pile;)V" } : Jvm.MethodName) prog_3_method_3_code (3 : Nat) (Option.none : Option Jvm.ClassFile.FieldType)) ∈ GW := gw_t2 18 rfl rfl
theorem w_232 : (Jvm.Cond.methodLink "CardHouse" (79 : Nat) ({ cls := "CardHouse$Pile", name := "size", desc := "()I" } : Jvm.MethodName)) ∈ GW := gw_t2 19 rfl rfl
theorem w_233 : (Jvm.Cond.instanceMethod ({ cls := "CardHouse$Pile", name := "size", desc := "()I" } : Jvm.MethodName)) ∈ GW := gw_t2 20 rfl rfl
theorem w_234 : (Jvm.Cond.selects "CardHouse$Pile" ({ cls := "CardHouse$Pile", name := "size", desc := "()I" } : Jvm.MethodName) ({ cls := "CardHouse$Pile", name := "size", desc := "()I" } : Jvm.MethodName)) ∈ GW := gw_t2 21 rfl rfl
theorem w_235 : (Jvm.Cond.code ({ cls := "CardHouse$Pile", name := "size", desc := "()I" } : Jvm.MethodName) prog_3_method_4_code (1 : Nat) (Option.some Jvm.ClassFile.FieldType.int)) ∈ GW := gw_t2 22 rfl rfl
theorem w_236 : (Jvm.Cond.methodLink "CardHouseLaw" (31 : Nat) ({ cls := "CardHouse", name := "about", desc := "(I)I" } : Jvm.MethodName)) ∈ GW := gw_t2 23 rfl rfl
theorem w_237 : (Jvm.Cond.instanceMethod ({ cls := "CardHouse", name := "about", desc := "(I)I" } : Jvm.MethodName)) ∈ GW := gw_t2 24 rfl rfl
theorem w_238 : (Jvm.Cond.selects "CardHouse" ({ cls := "CardHouse", name := "about", desc := "(I)I" } : Jvm.MethodName) ({ cls := "CardHouse", name := "about", desc := "(I)I" } : Jvm.MethodName)) ∈ GW := gw_t2 25 rfl rfl
theorem w_239 : (Jvm.Cond.code ({ cls := "CardHouse", name := "about", desc := "(I)I" } : Jvm.MethodName) prog_1_method_6_code (2 : Nat) (Option.some Jvm.ClassFile.FieldType.int)) ∈ GW := gw_t2 26 rfl rfl
theorem w_240 : (Jvm.Cond.methodLink "CardHouse" (85 : Nat) ({ cls := "CardHouse", name := "cardsInDeck", desc := "()I" } : Jvm.MethodName)) ∈ GW := gw_t2 27 rfl rfl
theorem w_241 : (Jvm.Cond.instanceMethod ({ cls := "CardHouse", name := "cardsInDeck", desc := "()I" } : Jvm.MethodName)) ∈ GW := gw_t2 29 rfl rfl
theorem w_242 : (Jvm.Cond.code ({ cls := "CardHouse", name := "cardsInDeck", desc := "()I" } : Jvm.MethodName) prog_1_method_7_code (3 : Nat) (Option.some Jvm.ClassFile.FieldType.int)) ∈ GW := gw_t2 30 rfl rfl
theorem w_243 : (Jvm.Cond.methodLink "CardHouse" (94 : Nat) ({ cls := "CardHouse$Pile", name := "cardsLeft", desc := "(I)I" } : Jvm.MethodName)) ∈ GW := gw_t2 31 rfl rfl
theorem w_244 : (Jvm.Cond.methodLink "CardHouse" (88 : Nat) ({ cls := "CardHouse$Pile", name := "highestLevel", desc := "()I" } : Jvm.MethodName)) ∈ GW := gw_t2 32 rfl rfl
theorem w_245 : (Jvm.Cond.instanceMethod ({ cls := "CardHouse$Pile", name := "highestLevel", desc := "()I" } : Jvm.MethodName)) ∈ GW := gw_t2 33 rfl rfl
theorem w_246 : (Jvm.Cond.selects "CardHouse$Pile" ({ cls := "CardHouse$Pile", name := "highestLevel", desc := "()I" } : Jvm.MethodName) ({ cls := "CardHouse$Pile", name := "highestLevel", desc := "()I" } : Jvm.MethodName)) ∈ GW := gw_t2 34 rfl rfl
theorem w_247 : (Jvm.Cond.code ({ cls := "CardHouse$Pile", name := "highestLevel", desc := "()I" } : Jvm.MethodName) prog_3_method_8_code (3 : Nat) (Option.some Jvm.ClassFile.FieldType.int)) ∈ GW := gw_t2 35 rfl rfl
theorem w_248 : (Jvm.Cond.methodLink "CardHouseLaw" (35 : Nat) ({ cls := "CardHouse", name := "deck", desc := "(I)I" } : Jvm.MethodName)) ∈ GW := gw_t2 38 rfl rfl
theorem w_249 : (Jvm.Cond.instanceMethod ({ cls := "CardHouse", name := "deck", desc := "(I)I" } : Jvm.MethodName)) ∈ GW := gw_t2 39 rfl rfl
theorem w_250 : (Jvm.Cond.selects "CardHouse" ({ cls := "CardHouse", name := "deck", desc := "(I)I" } : Jvm.MethodName) ({ cls := "CardHouse", name := "deck", desc := "(I)I" } : Jvm.MethodName)) ∈ GW := gw_t2 40 rfl rfl
theorem w_251 : (Jvm.Cond.code ({ cls := "CardHouse", name := "deck", desc := "(I)I" } : Jvm.MethodName) prog_1_method_8_code (2 : Nat) (Option.some Jvm.ClassFile.FieldType.int)) ∈ GW := gw_t2 41 rfl rfl
theorem w_252 : (Jvm.Cond.methodLink "CardHouse" (98 : Nat) ({ cls := "CardHouse", name := "isKind", desc := "(I)Z" } : Jvm.MethodName)) ∈ GW := gw_t2 42 rfl rfl
theorem w_253 : (Jvm.Cond.methodLink "CardHouseLaw" (39 : Nat) ({ cls := "CardHouse", name := "piece", desc := "(II)I" } : Jvm.MethodName)) ∈ GW := gw_t2 43 rfl rfl
theorem w_254 : (Jvm.Cond.instanceMethod ({ cls := "CardHouse", name := "piece", desc := "(II)I" } : Jvm.MethodName)) ∈ GW := gw_t2 44 rfl rfl
theorem w_255 : (Jvm.Cond.selects "CardHouse" ({ cls := "CardHouse", name := "piece", desc := "(II)I" } : Jvm.MethodName) ({ cls := "CardHouse", name := "piece", desc := "(II)I" } : Jvm.MethodName)) ∈ GW := gw_t2 45 rfl rfl
theorem w_256 : (Jvm.Cond.code ({ cls := "CardHouse", name := "piece", desc := "(II)I" } : Jvm.MethodName) prog_1_method_9_code (3 : Nat) (Option.some Jvm.ClassFile.FieldType.int)) ∈ GW := gw_t2 46 rfl rfl
theorem w_257 : (Jvm.Cond.methodLink "CardHouse" (102 : Nat) ({ cls := "CardHouse", name := "isPiece", desc := "(I)Z" } : Jvm.MethodName)) ∈ GW := gw_t2 47 rfl rfl
theorem w_258 : (Jvm.Cond.methodLink "CardHouse" (105 : Nat) ({ cls := "CardHouse$Pile", name := "has", desc := "(I)Z" } : Jvm.MethodName)) ∈ GW := gw_t2 48 rfl rfl
theorem w_259 : (Jvm.Cond.methodLink "CardHouse" (108 : Nat) ({ cls := "CardHouse$Pile", name := "kindOf", desc := "(I)I" } : Jvm.MethodName)) ∈ GW := gw_t2 49 rfl rfl
theorem w_260 : (Jvm.Cond.methodLink "CardHouse" (111 : Nat) ({ cls := "CardHouse$Pile", name := "weightOf", desc := "(I)I" } : Jvm.MethodName)) ∈ GW := gw_t2 50 rfl rfl
theorem w_261 : (Jvm.Cond.methodLink "CardHouse" (114 : Nat) ({ cls := "CardHouse$Pile", name := "loadOf", desc := "(I)I" } : Jvm.MethodName)) ∈ GW := gw_t2 51 rfl rfl
theorem w_262 : (Jvm.Cond.instanceMethod ({ cls := "CardHouse$Pile", name := "loadOf", desc := "(I)I" } : Jvm.MethodName)) ∈ GW := gw_t2 52 rfl rfl
theorem w_263 : (Jvm.Cond.selects "CardHouse$Pile" ({ cls := "CardHouse$Pile", name := "loadOf", desc := "(I)I" } : Jvm.MethodName) ({ cls := "CardHouse$Pile", name := "loadOf", desc := "(I)I" } : Jvm.MethodName)) ∈ GW := gw_t2 53 rfl rfl
theorem w_264 : (Jvm.Cond.code ({ cls := "CardHouse$Pile", name := "loadOf", desc := "(I)I" } : Jvm.MethodName) prog_3_method_28_code (2 : Nat) (Option.some Jvm.ClassFile.FieldType.int)) ∈ GW := gw_t2 54 rfl rfl
theorem w_265 : (Jvm.Cond.fieldLink "CardHouse" (117 : Nat) "CardHouse" "BEARS" "[I") ∈ GW := gw_t2 55 rfl rfl
theorem w_266 : (Jvm.Cond.methodLink "CardHouse" (121 : Nat) ({ cls := "CardHouse$Pile", name := "canLift", desc := "(I)Z" } : Jvm.MethodName)) ∈ GW := gw_t2 56 rfl rfl
theorem w_267 : (Jvm.Cond.instanceMethod ({ cls := "CardHouse$Pile", name := "canLift", desc := "(I)Z" } : Jvm.MethodName)) ∈ GW := gw_t2 57 rfl rfl
theorem w_268 : (Jvm.Cond.selects "CardHouse$Pile" ({ cls := "CardHouse$Pile", name := "canLift", desc := "(I)Z" } : Jvm.MethodName) ({ cls := "CardHouse$Pile", name := "canLift", desc := "(I)Z" } : Jvm.MethodName)) ∈ GW := gw_t2 58 rfl rfl
theorem w_269 : (Jvm.Cond.code ({ cls := "CardHouse$Pile", name := "canLift", desc := "(I)Z" } : Jvm.MethodName) prog_3_method_16_code (2 : Nat) (Option.some Jvm.ClassFile.FieldType.boolean)) ∈ GW := gw_t2 59 rfl rfl
theorem w_270 : (Jvm.Cond.methodLink "CardHouseLaw" (44 : Nat) ({ cls := "CardHouse", name := "put", desc := "(II)I" } : Jvm.MethodName)) ∈ GW := gw_t2 60 rfl rfl
theorem w_271 : (Jvm.Cond.instanceMethod ({ cls := "CardHouse", name := "put", desc := "(II)I" } : Jvm.MethodName)) ∈ GW := gw_t2 61 rfl rfl
theorem w_272 : (Jvm.Cond.selects "CardHouse" ({ cls := "CardHouse", name := "put", desc := "(II)I" } : Jvm.MethodName) ({ cls := "CardHouse", name := "put", desc := "(II)I" } : Jvm.MethodName)) ∈ GW := gw_t2 62 rfl rfl
theorem w_273 : (Jvm.Cond.code ({ cls := "CardHouse", name := "put", desc := "(II)I" } : Jvm.MethodName) prog_1_method_10_code (3 : Nat) (Option.some Jvm.ClassFile.FieldType.int)) ∈ GW := gw_t2 63 rfl rfl
theorem w_274 : (Jvm.Cond.methodLink "CardHouse" (124 : Nat) ({ cls := "CardHouse$Pile", name := "canLay", desc := "(II)Z" } : Jvm.MethodName)) ∈ GW := gw_t2 64 rfl rfl
theorem w_275 : (Jvm.Cond.methodLink "CardHouse" (128 : Nat) ({ cls := "CardHouse", name := "recordAct", desc := "()V" } : Jvm.MethodName)) ∈ GW := gw_t2 65 rfl rfl
theorem w_276 : (Jvm.Cond.instanceMethod ({ cls := "CardHouse", name := "recordAct", desc := "()V" } : Jvm.MethodName)) ∈ GW := gw_t2 67 rfl rfl
theorem w_277 : (Jvm.Cond.code ({ cls := "CardHouse", name := "recordAct", desc := "()V" } : Jvm.MethodName) prog_1_method_14_code (1 : Nat) (Option.none : Option Jvm.ClassFile.FieldType)) ∈ GW := gw_t2 68 rfl rfl
theorem w_278 : (Jvm.Cond.methodLink "CardHouse" (154 : Nat) ({ cls := "CardHouse$Shelf", name := "forgetFirst", desc := "()V" } : Jvm.MethodName)) ∈ GW := gw_t2 69 rfl rfl
theorem w_279 : (Jvm.Cond.instanceMethod ({ cls := "CardHouse$Shelf", name := "forgetFirst", desc := "()V" } : Jvm.MethodName)) ∈ GW := gw_t2 70 rfl rfl
theorem w_280 : (Jvm.Cond.selects "CardHouse$Shelf" ({ cls := "CardHouse$Shelf", name := "forgetFirst", desc := "()V" } : Jvm.MethodName) ({ cls := "CardHouse$Shelf", name := "forgetFirst", desc := "()V" } : Jvm.MethodName)) ∈ GW := gw_t2 71 rfl rfl
theorem w_281 : (Jvm.Cond.code ({ cls := "CardHouse$Shelf", name := "forgetFirst", desc := "()V" } : Jvm.MethodName) prog_4_method_4_code (2 : Nat) (Option.none : Option Jvm.ClassFile.FieldType)) ∈ GW := gw_t2 72 rfl rfl
theorem w_282 : (Jvm.Cond.methodLink "CardHouse" (157 : Nat) ({ cls := "CardHouse$Shelf", name := "store", desc := "(ILCardHouse$Pile;)V" } : Jvm.MethodName)) ∈ GW := gw_t2 73 rfl rfl
theorem w_283 : (Jvm.Cond.instanceMethod ({ cls := "CardHouse$Shelf", name := "store", desc := "(ILCardHouse$Pile;)V" } : Jvm.MethodName)) ∈ GW := gw_t2 74 rfl rfl
theorem w_284 : (Jvm.Cond.selects "CardHouse$Shelf" ({ cls := "CardHouse$Shelf", name := "store", desc := "(ILCardHouse$Pile;)V" } : Jvm.MethodName) ({ cls := "CardHouse$Shelf", name := "store", desc := "(ILCardHouse$Pile;)V" } : Jvm.MethodName)) ∈ GW := gw_t2 75 rfl rfl
theorem w_285 : (Jvm.Cond.code ({ cls := "CardHouse$Shelf", name := "store", desc := "(ILCardHouse$Pile;)V" } : Jvm.MethodName) prog_4_method_2_code (3 : Nat) (Option.none : Option Jvm.ClassFile.FieldType)) ∈ GW := gw_t2 76 rfl rfl
theorem w_286 : (Jvm.Cond.methodLink "CardHouse" (131 : Nat) ({ cls := "CardHouse$Pile", name := "lay", desc := "(II)I" } : Jvm.MethodName)) ∈ GW := gw_t2 77 rfl rfl
theorem w_287 : (Jvm.Cond.instanceMethod ({ cls := "CardHouse$Pile", name := "lay", desc := "(II)I" } : Jvm.MethodName)) ∈ GW := gw_t2 78 rfl rfl
theorem w_288 : (Jvm.Cond.selects "CardHouse$Pile" ({ cls := "CardHouse$Pile", name := "lay", desc := "(II)I" } : Jvm.MethodName) ({ cls := "CardHouse$Pile", name := "lay", desc := "(II)I" } : Jvm.MethodName)) ∈ GW := gw_t2 79 rfl rfl
theorem w_289 : (Jvm.Cond.code ({ cls := "CardHouse$Pile", name := "lay", desc := "(II)I" } : Jvm.MethodName) prog_3_method_14_code (3 : Nat) (Option.some Jvm.ClassFile.FieldType.int)) ∈ GW := gw_t2 80 rfl rfl
theorem w_290 : (Jvm.Cond.methodLink "CardHouse$Pile" (71 : Nat) ({ cls := "CardHouse$Pile", name := "place", desc := "(II)V" } : Jvm.MethodName)) ∈ GW := gw_t2 81 rfl rfl
theorem w_291 : (Jvm.Cond.methodLink "CardHouse$Pile" (75 : Nat) ({ cls := "CardHouse$Pile", name := "settle", desc := "()I" } : Jvm.MethodName)) ∈ GW := gw_t2 82 rfl rfl
theorem w_292 : (Jvm.Cond.methodLink "CardHouseLaw" (48 : Nat) ({ cls := "CardHouse", name := "take", desc := "(I)I" } : Jvm.MethodName)) ∈ GW := gw_t2 83 rfl rfl
theorem w_293 : (Jvm.Cond.instanceMethod ({ cls := "CardHouse", name := "take", desc := "(I)I" } : Jvm.MethodName)) ∈ GW := gw_t2 84 rfl rfl
theorem w_294 : (Jvm.Cond.selects "CardHouse" ({ cls := "CardHouse", name := "take", desc := "(I)I" } : Jvm.MethodName) ({ cls := "CardHouse", name := "take", desc := "(I)I" } : Jvm.MethodName)) ∈ GW := gw_t2 85 rfl rfl
theorem w_295 : (Jvm.Cond.code ({ cls := "CardHouse", name := "take", desc := "(I)I" } : Jvm.MethodName) prog_1_method_11_code (2 : Nat) (Option.some Jvm.ClassFile.FieldType.int)) ∈ GW := gw_t2 86 rfl rfl
theorem w_296 : (Jvm.Cond.methodLink "CardHouse" (135 : Nat) ({ cls := "CardHouse$Pile", name := "lift", desc := "(I)V" } : Jvm.MethodName)) ∈ GW := gw_t2 87 rfl rfl
theorem w_297 : (Jvm.Cond.instanceMethod ({ cls := "CardHouse$Pile", name := "lift", desc := "(I)V" } : Jvm.MethodName)) ∈ GW := gw_t2 88 rfl rfl
theorem w_298 : (Jvm.Cond.selects "CardHouse$Pile" ({ cls := "CardHouse$Pile", name := "lift", desc := "(I)V" } : Jvm.MethodName) ({ cls := "CardHouse$Pile", name := "lift", desc := "(I)V" } : Jvm.MethodName)) ∈ GW := gw_t2 89 rfl rfl
theorem w_299 : (Jvm.Cond.code ({ cls := "CardHouse$Pile", name := "lift", desc := "(I)V" } : Jvm.MethodName) prog_3_method_17_code (2 : Nat) (Option.none : Option Jvm.ClassFile.FieldType)) ∈ GW := gw_t2 90 rfl rfl
theorem w_300 : (Jvm.Cond.methodLink "CardHouse" (138 : Nat) ({ cls := "CardHouse", name := "cardsOf", desc := "(I)I" } : Jvm.MethodName)) ∈ GW := gw_t2 91 rfl rfl
theorem w_301 : (Jvm.Cond.methodLink "CardHouseLaw" (52 : Nat) ({ cls := "CardHouse", name := "draught", desc := "(II)I" } : Jvm.MethodName)) ∈ GW := gw_t2 92 rfl rfl
theorem w_302 : (Jvm.Cond.instanceMethod ({ cls := "CardHouse", name := "draught", desc := "(II)I" } : Jvm.MethodName)) ∈ GW := gw_t2 93 rfl rfl
theorem w_303 : (Jvm.Cond.selects "CardHouse" ({ cls := "CardHouse", name := "draught", desc := "(II)I" } : Jvm.MethodName) ({ cls := "CardHouse", name := "draught", desc := "(II)I" } : Jvm.MethodName)) ∈ GW := gw_t2 94 rfl rfl
theorem w_304 : (Jvm.Cond.code ({ cls := "CardHouse", name := "draught", desc := "(II)I" } : Jvm.MethodName) prog_1_method_12_code (3 : Nat) (Option.some Jvm.ClassFile.FieldType.int)) ∈ GW := gw_t2 95 rfl rfl
theorem w_305 : (Jvm.Cond.methodLink "CardHouse" (141 : Nat) ({ cls := "CardHouse", name := "isLevel", desc := "(I)Z" } : Jvm.MethodName)) ∈ GW := gw_t2 96 rfl rfl
theorem w_306 : (Jvm.Cond.static ({ cls := "CardHouse", name := "isLevel", desc := "(I)Z" } : Jvm.MethodName)) ∈ GW := gw_t2 97 rfl rfl
theorem w_307 : (Jvm.Cond.code ({ cls := "CardHouse", name := "isLevel", desc := "(I)Z" } : Jvm.MethodName) prog_1_method_37_code (1 : Nat) (Option.some Jvm.ClassFile.FieldType.boolean)) ∈ GW := gw_t2 98 rfl rfl
theorem w_308 : (Jvm.Cond.methodLink "CardHouse" (144 : Nat) ({ cls := "CardHouse", name := "isForce", desc := "(I)Z" } : Jvm.MethodName)) ∈ GW := gw_t2 99 rfl rfl
theorem w_309 : (Jvm.Cond.static ({ cls := "CardHouse", name := "isForce", desc := "(I)Z" } : Jvm.MethodName)) ∈ GW := gw_t2 100 rfl rfl
theorem w_310 : (Jvm.Cond.code ({ cls := "CardHouse", name := "isForce", desc := "(I)Z" } : Jvm.MethodName) prog_1_method_38_code (1 : Nat) (Option.some Jvm.ClassFile.FieldType.boolean)) ∈ GW := gw_t2 101 rfl rfl
theorem w_311 : (Jvm.Cond.methodLink "CardHouse" (147 : Nat) ({ cls := "CardHouse$Pile", name := "blow", desc := "(II)I" } : Jvm.MethodName)) ∈ GW := gw_t2 102 rfl rfl
theorem w_312 : (Jvm.Cond.instanceMethod ({ cls := "CardHouse$Pile", name := "blow", desc := "(II)I" } : Jvm.MethodName)) ∈ GW := gw_t2 103 rfl rfl
theorem w_313 : (Jvm.Cond.selects "CardHouse$Pile" ({ cls := "CardHouse$Pile", name := "blow", desc := "(II)I" } : Jvm.MethodName) ({ cls := "CardHouse$Pile", name := "blow", desc := "(II)I" } : Jvm.MethodName)) ∈ GW := gw_t2 104 rfl rfl
theorem w_314 : (Jvm.Cond.code ({ cls := "CardHouse$Pile", name := "blow", desc := "(II)I" } : Jvm.MethodName) prog_3_method_19_code (5 : Nat) (Option.some Jvm.ClassFile.FieldType.int)) ∈ GW := gw_t2 105 rfl rfl
theorem w_315 : (Jvm.Cond.methodLink "CardHouse$Pile" (96 : Nat) ({ cls := "CardHouse$Pile", name := "isTentOfLevel", desc := "(II)Z" } : Jvm.MethodName)) ∈ GW := gw_t2 106 rfl rfl
theorem w_316 : (Jvm.Cond.instanceMethod ({ cls := "CardHouse$Pile", name := "isTentOfLevel", desc := "(II)Z" } : Jvm.MethodName)) ∈ GW := gw_t2 108 rfl rfl
theorem w_317 : (Jvm.Cond.code ({ cls := "CardHouse$Pile", name := "isTentOfLevel", desc := "(II)Z" } : Jvm.MethodName) prog_3_method_22_code (3 : Nat) (Option.some Jvm.ClassFile.FieldType.boolean)) ∈ GW := gw_t2 109 rfl rfl
theorem w_318 : (Jvm.Cond.static ({ cls := "CardHouse", name := "steadiness", desc := "(II)I" } : Jvm.MethodName)) ∈ GW := gw_t2 114 rfl rfl
theorem w_319 : (Jvm.Cond.code ({ cls := "CardHouse", name := "steadiness", desc := "(II)I" } : Jvm.MethodName) prog_1_method_42_code (2 : Nat) (Option.some Jvm.ClassFile.FieldType.int)) ∈ GW := gw_t2 115 rfl rfl
theorem w_320 : (Jvm.Cond.methodLink "CardHouse" (247 : Nat) ({ cls := "CardHouse", name := "cardWeight", desc := "(I)I" } : Jvm.MethodName)) ∈ GW := gw_t2 116 rfl rfl
theorem w_321 : (Jvm.Cond.fieldLink "CardHouse" (250 : Nat) "CardHouse" "GRIP" "[I") ∈ GW := gw_t2 117 rfl rfl
theorem w_322 : (Jvm.Cond.methodLink "CardHouseLaw" (56 : Nat) ({ cls := "CardHouse", name := "undo", desc := "()I" } : Jvm.MethodName)) ∈ GW := gw_t2 119 rfl rfl
theorem w_323 : (Jvm.Cond.instanceMethod ({ cls := "CardHouse", name := "undo", desc := "()I" } : Jvm.MethodName)) ∈ GW := gw_t2 120 rfl rfl
theorem w_324 : (Jvm.Cond.selects "CardHouse" ({ cls := "CardHouse", name := "undo", desc := "()I" } : Jvm.MethodName) ({ cls := "CardHouse", name := "undo", desc := "()I" } : Jvm.MethodName)) ∈ GW := gw_t2 121 rfl rfl
theorem w_325 : (Jvm.Cond.code ({ cls := "CardHouse", name := "undo", desc := "()I" } : Jvm.MethodName) prog_1_method_13_code (1 : Nat) (Option.some Jvm.ClassFile.FieldType.int)) ∈ GW := gw_t2 122 rfl rfl
theorem w_326 : (Jvm.Cond.methodLink "CardHouse" (150 : Nat) ({ cls := "CardHouse$Shelf", name := "restore", desc := "(ILCardHouse$Pile;)V" } : Jvm.MethodName)) ∈ GW := gw_t2 123 rfl rfl
theorem w_327 : (Jvm.Cond.instanceMethod ({ cls := "CardHouse$Shelf", name := "restore", desc := "(ILCardHouse$Pile;)V" } : Jvm.MethodName)) ∈ GW := gw_t2 124 rfl rfl
theorem w_328 : (Jvm.Cond.selects "CardHouse$Shelf" ({ cls := "CardHouse$Shelf", name := "restore", desc := "(ILCardHouse$Pile;)V" } : Jvm.MethodName) ({ cls := "CardHouse$Shelf", name := "restore", desc := "(ILCardHouse$Pile;)V" } : Jvm.MethodName)) ∈ GW := gw_t2 125 rfl rfl
theorem w_329 : (Jvm.Cond.code ({ cls := "CardHouse$Shelf", name := "restore", desc := "(ILCardHouse$Pile;)V" } : Jvm.MethodName) prog_4_method_3_code (3 : Nat) (Option.none : Option Jvm.ClassFile.FieldType)) ∈ GW := gw_t2 126 rfl rfl
theorem w_330 : (Jvm.Cond.methodLink "CardHouseLaw" (60 : Nat) ({ cls := "CardHouse", name := "open", desc := "(I)I" } : Jvm.MethodName)) ∈ GW := gw_t2 127 rfl rfl
theorem w_331 : (Jvm.Cond.instanceMethod ({ cls := "CardHouse", name := "open", desc := "(I)I" } : Jvm.MethodName)) ∈ GW := gw_t2 128 rfl rfl
theorem w_332 : (Jvm.Cond.selects "CardHouse" ({ cls := "CardHouse", name := "open", desc := "(I)I" } : Jvm.MethodName) ({ cls := "CardHouse", name := "open", desc := "(I)I" } : Jvm.MethodName)) ∈ GW := gw_t2 129 rfl rfl
theorem w_333 : (Jvm.Cond.code ({ cls := "CardHouse", name := "open", desc := "(I)I" } : Jvm.MethodName) prog_1_method_15_code (5 : Nat) (Option.some Jvm.ClassFile.FieldType.int)) ∈ GW := gw_t2 130 rfl rfl
theorem w_334 : (Jvm.Cond.methodLink "CardHouse" (160 : Nat) ({ cls := "CardHouse$Pile", name := "hasRoomFor", desc := "(I)Z" } : Jvm.MethodName)) ∈ GW := gw_t2 131 rfl rfl
theorem w_335 : (Jvm.Cond.methodLink "CardHouseLaw" (64 : Nat) ({ cls := "CardHouse", name := "spread", desc := "(I)I" } : Jvm.MethodName)) ∈ GW := gw_t2 132 rfl rfl
theorem w_336 : (Jvm.Cond.instanceMethod ({ cls := "CardHouse", name := "spread", desc := "(I)I" } : Jvm.MethodName)) ∈ GW := gw_t2 133 rfl rfl
theorem w_337 : (Jvm.Cond.selects "CardHouse" ({ cls := "CardHouse", name := "spread", desc := "(I)I" } : Jvm.MethodName) ({ cls := "CardHouse", name := "spread", desc := "(I)I" } : Jvm.MethodName)) ∈ GW := gw_t2 134 rfl rfl
theorem w_338 : (Jvm.Cond.code ({ cls := "CardHouse", name := "spread", desc := "(I)I" } : Jvm.MethodName) prog_1_method_16_code (2 : Nat) (Option.some Jvm.ClassFile.FieldType.int)) ∈ GW := gw_t2 135 rfl rfl
theorem w_339 : (Jvm.Cond.methodLink "CardHouse" (163 : Nat) ({ cls := "CardHouse$Pile", name := "goneWith", desc := "(I)I" } : Jvm.MethodName)) ∈ GW := gw_t2 136 rfl rfl
theorem w_340 : (Jvm.Cond.methodLink "CardHouseLaw" (68 : Nat) ({ cls := "CardHouse", name := "stands", desc := "(I)I" } : Jvm.MethodName)) ∈ GW := gw_t2 137 rfl rfl
theorem w_341 : (Jvm.Cond.instanceMethod ({ cls := "CardHouse", name := "stands", desc := "(I)I" } : Jvm.MethodName)) ∈ GW := gw_t2 138 rfl rfl
theorem w_342 : (Jvm.Cond.selects "CardHouse" ({ cls := "CardHouse", name := "stands", desc := "(I)I" } : Jvm.MethodName) ({ cls := "CardHouse", name := "stands", desc := "(I)I" } : Jvm.MethodName)) ∈ GW := gw_t2 139 rfl rfl
theorem w_343 : (Jvm.Cond.code ({ cls := "CardHouse", name := "stands", desc := "(I)I" } : Jvm.MethodName) prog_1_method_17_code (2 : Nat) (Option.some Jvm.ClassFile.FieldType.int)) ∈ GW := gw_t2 140 rfl rfl
theorem w_344 : (Jvm.Cond.methodLink "CardHouse" (166 : Nat) ({ cls := "CardHouse$Pile", name := "forceStood", desc := "(I)I" } : Jvm.MethodName)) ∈ GW := gw_t2 141 rfl rfl
theorem w_345 : (Jvm.Cond.instanceMethod ({ cls := "CardHouse$Pile", name := "forceStood", desc := "(I)I" } : Jvm.MethodName)) ∈ GW := gw_t2 142 rfl rfl
theorem w_346 : (Jvm.Cond.selects "CardHouse$Pile" ({ cls := "CardHouse$Pile", name := "forceStood", desc := "(I)I" } : Jvm.MethodName) ({ cls := "CardHouse$Pile", name := "forceStood", desc := "(I)I" } : Jvm.MethodName)) ∈ GW := gw_t2 143 rfl rfl
theorem w_347 : (Jvm.Cond.code ({ cls := "CardHouse$Pile", name := "forceStood", desc := "(I)I" } : Jvm.MethodName) prog_3_method_21_code (4 : Nat) (Option.some Jvm.ClassFile.FieldType.int)) ∈ GW := gw_t2 144 rfl rfl
theorem w_348 : (Jvm.Cond.methodLink "CardHouse$Pile" (114 : Nat) ({ cls := "java/lang/Math", name := "min", desc := "(II)I" } : Jvm.MethodName)) ∈ GW := gw_t2 145 rfl rfl
theorem w_349 : (Jvm.Cond.static ({ cls := "java/lang/Math", name := "min", desc := "(II)I" } : Jvm.MethodName)) ∈ GW := gw_t2 146 rfl rfl
theorem w_350 : (Jvm.Cond.code ({ cls := "java/lang/Math", name := "min", desc := "(II)I" } : Jvm.MethodName) prog_9_method_69_code (2 : Nat) (Option.some Jvm.ClassFile.FieldType.int)) ∈ GW := gw_t2 147 rfl rfl
theorem w_351 : (Jvm.Cond.methodLink "CardHouseLaw" (72 : Nat) ({ cls := "CardHouse", name := "wants", desc := "(II)I" } : Jvm.MethodName)) ∈ GW := gw_t2 148 rfl rfl
theorem w_352 : (Jvm.Cond.instanceMethod ({ cls := "CardHouse", name := "wants", desc := "(II)I" } : Jvm.MethodName)) ∈ GW := gw_t2 149 rfl rfl
theorem w_353 : (Jvm.Cond.selects "CardHouse" ({ cls := "CardHouse", name := "wants", desc := "(II)I" } : Jvm.MethodName) ({ cls := "CardHouse", name := "wants", desc := "(II)I" } : Jvm.MethodName)) ∈ GW := gw_t2 150 rfl rfl
theorem w_354 : (Jvm.Cond.code ({ cls := "CardHouse", name := "wants", desc := "(II)I" } : Jvm.MethodName) prog_1_method_18_code (5 : Nat) (Option.some Jvm.ClassFile.FieldType.int)) ∈ GW := gw_t2 151 rfl rfl
theorem w_355 : (Jvm.Cond.methodLink "CardHouse" (169 : Nat) ({ cls := "CardHouse$Pile", name := "missingFor", desc := "(I)I" } : Jvm.MethodName)) ∈ GW := gw_t2 152 rfl rfl
theorem w_356 : (Jvm.Cond.instanceMethod ({ cls := "CardHouse$Pile", name := "missingFor", desc := "(I)I" } : Jvm.MethodName)) ∈ GW := gw_t2 153 rfl rfl
theorem w_357 : (Jvm.Cond.selects "CardHouse$Pile" ({ cls := "CardHouse$Pile", name := "missingFor", desc := "(I)I" } : Jvm.MethodName) ({ cls := "CardHouse$Pile", name := "missingFor", desc := "(I)I" } : Jvm.MethodName)) ∈ GW := gw_t2 154 rfl rfl
theorem w_358 : (Jvm.Cond.code ({ cls := "CardHouse$Pile", name := "missingFor", desc := "(I)I" } : Jvm.MethodName) prog_3_method_27_code (4 : Nat) (Option.some Jvm.ClassFile.FieldType.int)) ∈ GW := gw_t2 155 rfl rfl
theorem w_359 : (Jvm.Cond.methodLink "CardHouse" (172 : Nat) ({ cls := "java/lang/Integer", name := "bitCount", desc := "(I)I" } : Jvm.MethodName)) ∈ GW := gw_t2 156 rfl rfl
theorem w_360 : (Jvm.Cond.methodLink "CardHouseLaw" (76 : Nat) ({ cls := "CardHouse", name := "fit", desc := "(I)I" } : Jvm.MethodName)) ∈ GW := gw_t2 157 rfl rfl
theorem w_361 : (Jvm.Cond.instanceMethod ({ cls := "CardHouse", name := "fit", desc := "(I)I" } : Jvm.MethodName)) ∈ GW := gw_t2 158 rfl rfl
theorem w_362 : (Jvm.Cond.selects "CardHouse" ({ cls := "CardHouse", name := "fit", desc := "(I)I" } : Jvm.MethodName) ({ cls := "CardHouse", name := "fit", desc := "(I)I" } : Jvm.MethodName)) ∈ GW := gw_t2 159 rfl rfl
theorem w_363 : (Jvm.Cond.code ({ cls := "CardHouse", name := "fit", desc := "(I)I" } : Jvm.MethodName) prog_1_method_19_code (3 : Nat) (Option.some Jvm.ClassFile.FieldType.int)) ∈ GW := gw_t2 160 rfl rfl
theorem w_364 : (Jvm.Cond.methodLink "CardHouseLaw" (82 : Nat) ({ cls := "CardHouse", name := "judge", desc := "(IJ)I" } : Jvm.MethodName)) ∈ GW := gw_t2 161 rfl rfl
theorem w_365 : (Jvm.Cond.instanceMethod ({ cls := "CardHouse", name := "judge", desc := "(IJ)I" } : Jvm.MethodName)) ∈ GW := gw_t2 162 rfl rfl
theorem w_366 : (Jvm.Cond.selects "CardHouse" ({ cls := "CardHouse", name := "judge", desc := "(IJ)I" } : Jvm.MethodName) ({ cls := "CardHouse", name := "judge", desc := "(IJ)I" } : Jvm.MethodName)) ∈ GW := gw_t2 163 rfl rfl
theorem w_367 : (Jvm.Cond.code ({ cls := "CardHouse", name := "judge", desc := "(IJ)I" } : Jvm.MethodName) prog_1_method_20_code (8 : Nat) (Option.some Jvm.ClassFile.FieldType.int)) ∈ GW := gw_t2 164 rfl rfl
theorem w_368 : (Jvm.Cond.fieldLink "CardHouse" (178 : Nat) "CardHouse" "DOINGS_LIMIT" "[J") ∈ GW := gw_t2 165 rfl rfl
theorem w_369 : (Jvm.Cond.constantLong "CardHouse" (182 : Nat) (10000 : Int64)) ∈ GW := gw_t2 167 rfl rfl
theorem w_370 : (Jvm.Cond.methodLink "CardHouse" (184 : Nat) ({ cls := "CardHouse", name := "canBeDone", desc := "(I)Z" } : Jvm.MethodName)) ∈ GW := gw_t2 168 rfl rfl
theorem w_371 : (Jvm.Cond.instanceMethod ({ cls := "CardHouse", name := "canBeDone", desc := "(I)Z" } : Jvm.MethodName)) ∈ GW := gw_t2 170 rfl rfl
theorem w_372 : (Jvm.Cond.code ({ cls := "CardHouse", name := "canBeDone", desc := "(I)Z" } : Jvm.MethodName) prog_1_method_21_code (4 : Nat) (Option.some Jvm.ClassFile.FieldType.boolean)) ∈ GW := gw_t2 171 rfl rfl
theorem w_373 : (Jvm.Cond.methodLink "CardHouse" (187 : Nat) ({ cls := "CardHouse$Pile", name := "layIfCan", desc := "(II)Z" } : Jvm.MethodName)) ∈ GW := gw_t2 172 rfl rfl
theorem w_374 : (Jvm.Cond.instanceMethod ({ cls := "CardHouse$Pile", name := "layIfCan", desc := "(II)Z" } : Jvm.MethodName)) ∈ GW := gw_t2 173 rfl rfl
theorem w_375 : (Jvm.Cond.selects "CardHouse$Pile" ({ cls := "CardHouse$Pile", name := "layIfCan", desc := "(II)Z" } : Jvm.MethodName) ({ cls := "CardHouse$Pile", name := "layIfCan", desc := "(II)Z" } : Jvm.MethodName)) ∈ GW := gw_t2 174 rfl rfl
theorem w_376 : (Jvm.Cond.code ({ cls := "CardHouse$Pile", name := "layIfCan", desc := "(II)Z" } : Jvm.MethodName) prog_3_method_15_code (3 : Nat) (Option.some Jvm.ClassFile.FieldType.boolean)) ∈ GW := gw_t2 175 rfl rfl
theorem w_377 : (Jvm.Cond.methodLink "CardHouse$Pile" (79 : Nat) ({ cls := "CardHouse$Pile", name := "canLay", desc := "(II)Z" } : Jvm.MethodName)) ∈ GW := gw_t2 176 rfl rfl
theorem w_378 : (Jvm.Cond.methodLink "CardHouse" (190 : Nat) ({ cls := "CardHouse$Pile", name := "liftIfCan", desc := "(I)Z" } : Jvm.MethodName)) ∈ GW := gw_t2 177 rfl rfl
theorem w_379 : (Jvm.Cond.instanceMethod ({ cls := "CardHouse$Pile", name := "liftIfCan", desc := "(I)Z" } : Jvm.MethodName)) ∈ GW := gw_t2 178 rfl rfl
theorem w_380 : (Jvm.Cond.selects "CardHouse$Pile" ({ cls := "CardHouse$Pile", name := "liftIfCan", desc := "(I)Z" } : Jvm.MethodName) ({ cls := "CardHouse$Pile", name := "liftIfCan", desc := "(I)Z" } : Jvm.MethodName)) ∈ GW := gw_t2 179 rfl rfl
theorem w_381 : (Jvm.Cond.code ({ cls := "CardHouse$Pile", name := "liftIfCan", desc := "(I)Z" } : Jvm.MethodName) prog_3_method_18_code (2 : Nat) (Option.some Jvm.ClassFile.FieldType.boolean)) ∈ GW := gw_t2 180 rfl rfl
theorem w_382 : (Jvm.Cond.methodLink "CardHouse$Pile" (86 : Nat) ({ cls := "CardHouse$Pile", name := "canLift", desc := "(I)Z" } : Jvm.MethodName)) ∈ GW := gw_t2 181 rfl rfl
theorem w_383 : (Jvm.Cond.methodLink "CardHouse$Pile" (89 : Nat) ({ cls := "CardHouse$Pile", name := "lift", desc := "(I)V" } : Jvm.MethodName)) ∈ GW := gw_t2 182 rfl rfl
theorem w_384 : (Jvm.Cond.methodLink "CardHouse" (193 : Nat) ({ cls := "CardHouse$Pile", name := "blowIfCan", desc := "(II)Z" } : Jvm.MethodName)) ∈ GW := gw_t2 183 rfl rfl
theorem w_385 : (Jvm.Cond.instanceMethod ({ cls := "CardHouse$Pile", name := "blowIfCan", desc := "(II)Z" } : Jvm.MethodName)) ∈ GW := gw_t2 184 rfl rfl
theorem w_386 : (Jvm.Cond.selects "CardHouse$Pile" ({ cls := "CardHouse$Pile", name := "blowIfCan", desc := "(II)Z" } : Jvm.MethodName) ({ cls := "CardHouse$Pile", name := "blowIfCan", desc := "(II)Z" } : Jvm.MethodName)) ∈ GW := gw_t2 185 rfl rfl
theorem w_387 : (Jvm.Cond.code ({ cls := "CardHouse$Pile", name := "blowIfCan", desc := "(II)Z" } : Jvm.MethodName) prog_3_method_20_code (3 : Nat) (Option.some Jvm.ClassFile.FieldType.boolean)) ∈ GW := gw_t2 186 rfl rfl
theorem w_388 : (Jvm.Cond.methodLink "CardHouse$Pile" (111 : Nat) ({ cls := "CardHouse$Pile", name := "blow", desc := "(II)I" } : Jvm.MethodName)) ∈ GW := gw_t2 188 rfl rfl
theorem w_389 : (Jvm.Cond.methodLink "CardHouseLaw" (87 : Nat) ({ cls := "CardHouse", name := "share", desc := "(IZ)I" } : Jvm.MethodName)) ∈ GW := gw_t2 189 rfl rfl
theorem w_390 : (Jvm.Cond.instanceMethod ({ cls := "CardHouse", name := "share", desc := "(IZ)I" } : Jvm.MethodName)) ∈ GW := gw_t2 190 rfl rfl
theorem w_391 : (Jvm.Cond.selects "CardHouse" ({ cls := "CardHouse", name := "share", desc := "(IZ)I" } : Jvm.MethodName) ({ cls := "CardHouse", name := "share", desc := "(IZ)I" } : Jvm.MethodName)) ∈ GW := gw_t2 191 rfl rfl
theorem w_392 : (Jvm.Cond.code ({ cls := "CardHouse", name := "share", desc := "(IZ)I" } : Jvm.MethodName) prog_1_method_22_code (7 : Nat) (Option.some Jvm.ClassFile.FieldType.int)) ∈ GW := gw_t2 192 rfl rfl
theorem w_393 : (Jvm.Cond.methodLink "CardHouse" (196 : Nat) ({ cls := "CardHouse$Pile", name := "sizeWithout", desc := "(I)I" } : Jvm.MethodName)) ∈ GW := gw_t2 193 rfl rfl
theorem w_394 : (Jvm.Cond.instanceMethod ({ cls := "CardHouse$Pile", name := "sizeWithout", desc := "(I)I" } : Jvm.MethodName)) ∈ GW := gw_t2 194 rfl rfl
theorem w_395 : (Jvm.Cond.selects "CardHouse$Pile" ({ cls := "CardHouse$Pile", name := "sizeWithout", desc := "(I)I" } : Jvm.MethodName) ({ cls := "CardHouse$Pile", name := "sizeWithout", desc := "(I)I" } : Jvm.MethodName)) ∈ GW := gw_t2 195 rfl rfl
theorem w_396 : (Jvm.Cond.code ({ cls := "CardHouse$Pile", name := "sizeWithout", desc := "(I)I" } : Jvm.MethodName) prog_3_method_26_code (2 : Nat) (Option.some Jvm.ClassFile.FieldType.int)) ∈ GW := gw_t2 196 rfl rfl
theorem w_397 : (Jvm.Cond.methodLink "CardHouse$Pile" (123 : Nat) ({ cls := "CardHouse$Pile", name := "size", desc := "()I" } : Jvm.MethodName)) ∈ GW := gw_t2 197 rfl rfl
theorem w_398 : (Jvm.Cond.fieldLink "CardHouse" (199 : Nat) "CardHouse" "ORDERS" "[I") ∈ GW := gw_t2 198 rfl rfl
theorem w_399 : (Jvm.Cond.methodLink "CardHouse" (202 : Nat) ({ cls := "CardHouse", name := "partOfFraction", desc := "(IIZ)I" } : Jvm.MethodName)) ∈ GW := gw_t2 200 rfl rfl
theorem w_400 : (Jvm.Cond.static ({ cls := "CardHouse", name := "partOfFraction", desc := "(IIZ)I" } : Jvm.MethodName)) ∈ GW := gw_t2 201 rfl rfl
theorem w_401 : (Jvm.Cond.code ({ cls := "CardHouse", name := "partOfFraction", desc := "(IIZ)I" } : Jvm.MethodName) prog_1_method_44_code (4 : Nat) (Option.some Jvm.ClassFile.FieldType.int)) ∈ GW := gw_t2 202 rfl rfl
theorem w_402 : (Jvm.Cond.methodLink "CardHouse" (253 : Nat) ({ cls := "CardHouse", name := "commonDivisor", desc := "(II)I" } : Jvm.MethodName)) ∈ GW := gw_t2 203 rfl rfl
theorem w_403 : (Jvm.Cond.static ({ cls := "CardHouse", name := "commonDivisor", desc := "(II)I" } : Jvm.MethodName)) ∈ GW := gw_t2 204 rfl rfl
theorem w_404 : (Jvm.Cond.code ({ cls := "CardHouse", name := "commonDivisor", desc := "(II)I" } : Jvm.MethodName) prog_1_method_45_code (6 : Nat) (Option.some Jvm.ClassFile.FieldType.int)) ∈ GW := gw_t2 205 rfl rfl
theorem w_405 : (Jvm.Cond.methodLink "CardHouse" (261 : Nat) ({ cls := "java/lang/Math", name := "abs", desc := "(I)I" } : Jvm.MethodName)) ∈ GW := gw_t2 206 rfl rfl
theorem w_406 : (Jvm.Cond.static ({ cls := "java/lang/Math", name := "abs", desc := "(I)I" } : Jvm.MethodName)) ∈ GW := gw_t2 207 rfl rfl
theorem w_407 : (Jvm.Cond.code ({ cls := "java/lang/Math", name := "abs", desc := "(I)I" } : Jvm.MethodName) prog_9_method_59_code (1 : Nat) (Option.some Jvm.ClassFile.FieldType.int)) ∈ GW := gw_t2 208 rfl rfl
theorem w_408 : (Jvm.Cond.methodLink "CardHouse" (256 : Nat) ({ cls := "java/lang/Math", name := "max", desc := "(II)I" } : Jvm.MethodName)) ∈ GW := gw_t2 209 rfl rfl
theorem w_409 : (Jvm.Cond.methodLink "CardHouseLaw" (92 : Nat) ({ cls := "CardHouse", name := "hold", desc := "(IIII)I" } : Jvm.MethodName)) ∈ GW := gw_t2 210 rfl rfl
theorem w_410 : (Jvm.Cond.instanceMethod ({ cls := "CardHouse", name := "hold", desc := "(IIII)I" } : Jvm.MethodName)) ∈ GW := gw_t2 211 rfl rfl
theorem w_411 : (Jvm.Cond.selects "CardHouse" ({ cls := "CardHouse", name := "hold", desc := "(IIII)I" } : Jvm.MethodName) ({ cls := "CardHouse", name := "hold", desc := "(IIII)I" } : Jvm.MethodName)) ∈ GW := gw_t2 212 rfl rfl
theorem w_412 : (Jvm.Cond.code ({ cls := "CardHouse", name := "hold", desc := "(IIII)I" } : Jvm.MethodName) prog_1_method_23_code (6 : Nat) (Option.some Jvm.ClassFile.FieldType.int)) ∈ GW := gw_t2 213 rfl rfl
theorem w_413 : (Jvm.Cond.methodLink "CardHouse" (206 : Nat) ({ cls := "CardHouse", name := "kindsThatHold", desc := "(II)I" } : Jvm.MethodName)) ∈ GW := gw_t2 214 rfl rfl
theorem w_414 : (Jvm.Cond.static ({ cls := "CardHouse", name := "kindsThatHold", desc := "(II)I" } : Jvm.MethodName)) ∈ GW := gw_t2 215 rfl rfl
theorem w_415 : (Jvm.Cond.code ({ cls := "CardHouse", name := "kindsThatHold", desc := "(II)I" } : Jvm.MethodName) prog_1_method_24_code (4 : Nat) (Option.some Jvm.ClassFile.FieldType.int)) ∈ GW := gw_t2 216 rfl rfl
theorem w_416 : (Jvm.Cond.methodLink "CardHouse" (209 : Nat) ({ cls := "CardHouse", name := "steadiness", desc := "(II)I" } : Jvm.MethodName)) ∈ GW := gw_t2 217 rfl rfl
theorem w_417 : (Jvm.Cond.methodLink "CardHouseLaw" (97 : Nat) ({ cls := "CardHouse", name := "unhold", desc := "()I" } : Jvm.MethodName)) ∈ GW := gw_t2 218 rfl rfl
theorem w_418 : (Jvm.Cond.instanceMethod ({ cls := "CardHouse", name := "unhold", desc := "()I" } : Jvm.MethodName)) ∈ GW := gw_t2 219 rfl rfl
theorem w_419 : (Jvm.Cond.selects "CardHouse" ({ cls := "CardHouse", name := "unhold", desc := "()I" } : Jvm.MethodName) ({ cls := "CardHouse", name := "unhold", desc := "()I" } : Jvm.MethodName)) ∈ GW := gw_t2 220 rfl rfl
theorem w_420 : (Jvm.Cond.code ({ cls := "CardHouse", name := "unhold", desc := "()I" } : Jvm.MethodName) prog_1_method_25_code (2 : Nat) (Option.some Jvm.ClassFile.FieldType.int)) ∈ GW := gw_t2 221 rfl rfl
theorem w_421 : (Jvm.Cond.methodLink "CardHouseLaw" (101 : Nat) ({ cls := "CardHouse", name := "tents", desc := "(I)I" } : Jvm.MethodName)) ∈ GW := gw_t2 222 rfl rfl
theorem w_422 : (Jvm.Cond.instanceMethod ({ cls := "CardHouse", name := "tents", desc := "(I)I" } : Jvm.MethodName)) ∈ GW := gw_t2 223 rfl rfl
theorem w_423 : (Jvm.Cond.selects "CardHouse" ({ cls := "CardHouse", name := "tents", desc := "(I)I" } : Jvm.MethodName) ({ cls := "CardHouse", name := "tents", desc := "(I)I" } : Jvm.MethodName)) ∈ GW := gw_t2 224 rfl rfl
theorem w_424 : (Jvm.Cond.code ({ cls := "CardHouse", name := "tents", desc := "(I)I" } : Jvm.MethodName) prog_1_method_26_code (2 : Nat) (Option.some Jvm.ClassFile.FieldType.int)) ∈ GW := gw_t2 225 rfl rfl
theorem w_425 : (Jvm.Cond.methodLink "CardHouse" (212 : Nat) ({ cls := "java/lang/Integer", name := "numberOfTrailingZeros", desc := "(I)I" } : Jvm.MethodName)) ∈ GW := gw_t2 226 rfl rfl
theorem w_426 : (Jvm.Cond.static ({ cls := "java/lang/Integer", name := "numberOfTrailingZeros", desc := "(I)I" } : Jvm.MethodName)) ∈ GW := gw_t2 227 rfl rfl
theorem w_427 : (Jvm.Cond.code ({ cls := "java/lang/Integer", name := "numberOfTrailingZeros", desc := "(I)I" } : Jvm.MethodName) prog_8_method_48_code (2 : Nat) (Option.some Jvm.ClassFile.FieldType.int)) ∈ GW := gw_t2 228 rfl rfl
theorem w_428 : (Jvm.Cond.constant "java/lang/Integer" (264 : Nat) (65536 : Int32)) ∈ GW := gw_t2 229 rfl rfl
theorem w_429 : (Jvm.Cond.methodLink "CardHouseLaw" (105 : Nat) ({ cls := "CardHouse", name := "rests", desc := "(III)I" } : Jvm.MethodName)) ∈ GW := gw_t2 230 rfl rfl
theorem w_430 : (Jvm.Cond.instanceMethod ({ cls := "CardHouse", name := "rests", desc := "(III)I" } : Jvm.MethodName)) ∈ GW := gw_t2 231 rfl rfl
theorem w_431 : (Jvm.Cond.selects "CardHouse" ({ cls := "CardHouse", name := "rests", desc := "(III)I" } : Jvm.MethodName) ({ cls := "CardHouse", name := "rests", desc := "(III)I" } : Jvm.MethodName)) ∈ GW := gw_t2 232 rfl rfl
theorem w_432 : (Jvm.Cond.code ({ cls := "CardHouse", name := "rests", desc := "(III)I" } : Jvm.MethodName) prog_1_method_27_code (6 : Nat) (Option.some Jvm.ClassFile.FieldType.int)) ∈ GW := gw_t2 233 rfl rfl
theorem w_433 : (Jvm.Cond.methodLink "CardHouse" (215 : Nat) ({ cls := "CardHouse", name := "gain", desc := "(II)I" } : Jvm.MethodName)) ∈ GW := gw_t2 234 rfl rfl
theorem w_434 : (Jvm.Cond.instanceMethod ({ cls := "CardHouse", name := "gain", desc := "(II)I" } : Jvm.MethodName)) ∈ GW := gw_t2 236 rfl rfl
theorem w_435 : (Jvm.Cond.code ({ cls := "CardHouse", name := "gain", desc := "(II)I" } : Jvm.MethodName) prog_1_method_28_code (3 : Nat) (Option.some Jvm.ClassFile.FieldType.int)) ∈ GW := gw_t2 237 rfl rfl
theorem w_436 : (Jvm.Cond.methodLink "CardHouse" (218 : Nat) ({ cls := "CardHouse$Contest", name := "note", desc := "(IIII)V" } : Jvm.MethodName)) ∈ GW := gw_t2 238 rfl rfl
theorem w_437 : (Jvm.Cond.instanceMethod ({ cls := "CardHouse$Contest", name := "note", desc := "(IIII)V" } : Jvm.MethodName)) ∈ GW := gw_t2 239 rfl rfl
theorem w_438 : (Jvm.Cond.selects "CardHouse$Contest" ({ cls := "CardHouse$Contest", name := "note", desc := "(IIII)V" } : Jvm.MethodName) ({ cls := "CardHouse$Contest", name := "note", desc := "(IIII)V" } : Jvm.MethodName)) ∈ GW := gw_t3 0 rfl rfl
theorem w_439 : (Jvm.Cond.code ({ cls := "CardHouse$Contest", name := "note", desc := "(IIII)V" } : Jvm.MethodName) prog_2_method_2_code (6 : Nat) (Option.none : Option Jvm.ClassFile.FieldType)) ∈ GW := gw_t3 1 rfl rfl
theorem w_440 : (Jvm.Cond.methodLink "CardHouse" (222 : Nat) ({ cls := "CardHouse$Contest", name := "countAtRest", desc := "()I" } : Jvm.MethodName)) ∈ GW := gw_t3 2 rfl rfl
theorem w_441 : (Jvm.Cond.instanceMethod ({ cls := "CardHouse$Contest", name := "countAtRest", desc := "()I" } : Jvm.MethodName)) ∈ GW := gw_t3 3 rfl rfl
theorem w_442 : (Jvm.Cond.selects "CardHouse$Contest" ({ cls := "CardHouse$Contest", name := "countAtRest", desc := "()I" } : Jvm.MethodName) ({ cls := "CardHouse$Contest", name := "countAtRest", desc := "()I" } : Jvm.MethodName)) ∈ GW := gw_t3 4 rfl rfl
theorem w_443 : (Jvm.Cond.code ({ cls := "CardHouse$Contest", name := "countAtRest", desc := "()I" } : Jvm.MethodName) prog_2_method_3_code (3 : Nat) (Option.some Jvm.ClassFile.FieldType.int)) ∈ GW := gw_t3 5 rfl rfl
theorem w_444 : (Jvm.Cond.methodLink "CardHouse$Contest" (18 : Nat) ({ cls := "CardHouse$Contest", name := "isAtRest", desc := "(I)Z" } : Jvm.MethodName)) ∈ GW := gw_t3 6 rfl rfl
theorem w_445 : (Jvm.Cond.instanceMethod ({ cls := "CardHouse$Contest", name := "isAtRest", desc := "(I)Z" } : Jvm.MethodName)) ∈ GW := gw_t3 8 rfl rfl
theorem w_446 : (Jvm.Cond.code ({ cls := "CardHouse$Contest", name := "isAtRest", desc := "(I)Z" } : Jvm.MethodName) prog_2_method_5_code (5 : Nat) (Option.some Jvm.ClassFile.FieldType.boolean)) ∈ GW := gw_t3 9 rfl rfl
theorem w_447 : (Jvm.Cond.methodLink "CardHouse" (225 : Nat) ({ cls := "CardHouse$Contest", name := "firstAtRest", desc := "()I" } : Jvm.MethodName)) ∈ GW := gw_t3 10 rfl rfl
theorem w_448 : (Jvm.Cond.instanceMethod ({ cls := "CardHouse$Contest", name := "firstAtRest", desc := "()I" } : Jvm.MethodName)) ∈ GW := gw_t3 11 rfl rfl
theorem w_449 : (Jvm.Cond.selects "CardHouse$Contest" ({ cls := "CardHouse$Contest", name := "firstAtRest", desc := "()I" } : Jvm.MethodName) ({ cls := "CardHouse$Contest", name := "firstAtRest", desc := "()I" } : Jvm.MethodName)) ∈ GW := gw_t3 12 rfl rfl
theorem w_450 : (Jvm.Cond.code ({ cls := "CardHouse$Contest", name := "firstAtRest", desc := "()I" } : Jvm.MethodName) prog_2_method_4_code (2 : Nat) (Option.some Jvm.ClassFile.FieldType.int)) ∈ GW := gw_t3 13 rfl rfl
theorem w_451 : (Jvm.Cond.methodLink "CardHouseLaw" (110 : Nat) ({ cls := "CardHouse", name := "shaken", desc := "(IIZ)I" } : Jvm.MethodName)) ∈ GW := gw_t3 14 rfl rfl
theorem w_452 : (Jvm.Cond.instanceMethod ({ cls := "CardHouse", name := "shaken", desc := "(IIZ)I" } : Jvm.MethodName)) ∈ GW := gw_t3 15 rfl rfl
theorem w_453 : (Jvm.Cond.selects "CardHouse" ({ cls := "CardHouse", name := "shaken", desc := "(IIZ)I" } : Jvm.MethodName) ({ cls := "CardHouse", name := "shaken", desc := "(IIZ)I" } : Jvm.MethodName)) ∈ GW := gw_t3 16 rfl rfl
theorem w_454 : (Jvm.Cond.code ({ cls := "CardHouse", name := "shaken", desc := "(IIZ)I" } : Jvm.MethodName) prog_1_method_29_code (7 : Nat) (Option.some Jvm.ClassFile.FieldType.int)) ∈ GW := gw_t3 17 rfl rfl
theorem w_455 : (Jvm.Cond.methodLink "CardHouse" (228 : Nat) ({ cls := "CardHouse", name := "power", desc := "(II)I" } : Jvm.MethodName)) ∈ GW := gw_t3 18 rfl rfl
theorem w_456 : (Jvm.Cond.static ({ cls := "CardHouse", name := "power", desc := "(II)I" } : Jvm.MethodName)) ∈ GW := gw_t3 19 rfl rfl
theorem w_457 : (Jvm.Cond.code ({ cls := "CardHouse", name := "power", desc := "(II)I" } : Jvm.MethodName) prog_1_method_43_code (4 : Nat) (Option.some Jvm.ClassFile.FieldType.int)) ∈ GW := gw_t3 20 rfl rfl
theorem w_458 : (Jvm.Cond.methodLink "CardHouseLaw" (115 : Nat) ({ cls := "CardHouse", name := "seed", desc := "(J)J" } : Jvm.MethodName)) ∈ GW := gw_t3 21 rfl rfl
theorem w_459 : (Jvm.Cond.instanceMethod ({ cls := "CardHouse", name := "seed", desc := "(J)J" } : Jvm.MethodName)) ∈ GW := gw_t3 22 rfl rfl
theorem w_460 : (Jvm.Cond.selects "CardHouse" ({ cls := "CardHouse", name := "seed", desc := "(J)J" } : Jvm.MethodName) ({ cls := "CardHouse", name := "seed", desc := "(J)J" } : Jvm.MethodName)) ∈ GW := gw_t3 23 rfl rfl
theorem w_461 : (Jvm.Cond.code ({ cls := "CardHouse", name := "seed", desc := "(J)J" } : Jvm.MethodName) prog_1_method_30_code (5 : Nat) (Option.some Jvm.ClassFile.FieldType.long)) ∈ GW := gw_t3 24 rfl rfl
theorem w_462 : (Jvm.Cond.methodLink "CardHouseLaw" (120 : Nat) ({ cls := "CardHouse", name := "evenings", desc := "(I)I" } : Jvm.MethodName)) ∈ GW := gw_t3 25 rfl rfl
theorem w_463 : (Jvm.Cond.instanceMethod ({ cls := "CardHouse", name := "evenings", desc := "(I)I" } : Jvm.MethodName)) ∈ GW := gw_t3 26 rfl rfl
theorem w_464 : (Jvm.Cond.selects "CardHouse" ({ cls := "CardHouse", name := "evenings", desc := "(I)I" } : Jvm.MethodName) ({ cls := "CardHouse", name := "evenings", desc := "(I)I" } : Jvm.MethodName)) ∈ GW := gw_t3 27 rfl rfl
theorem w_465 : (Jvm.Cond.code ({ cls := "CardHouse", name := "evenings", desc := "(I)I" } : Jvm.MethodName) prog_1_method_31_code (4 : Nat) (Option.some Jvm.ClassFile.FieldType.int)) ∈ GW := gw_t3 28 rfl rfl
theorem w_466 : (Jvm.Cond.constantLong "CardHouse" (235 : Nat) (6364136223846793005 : Int64)) ∈ GW := gw_t3 29 rfl rfl
theorem w_467 : (Jvm.Cond.constantLong "CardHouse" (237 : Nat) (1442695040888963407 : Int64)) ∈ GW := gw_t3 30 rfl rfl
theorem w_468 : (Jvm.Cond.constantLong "CardHouse" (239 : Nat) (80 : Int64)) ∈ GW := gw_t3 31 rfl rfl
theorem w_469 : (Jvm.Cond.methodLink "CardHouse" (241 : Nat) ({ cls := "CardHouse", name := "passEvening", desc := "(I)V" } : Jvm.MethodName)) ∈ GW := gw_t3 32 rfl rfl
theorem w_470 : (Jvm.Cond.instanceMethod ({ cls := "CardHouse", name := "passEvening", desc := "(I)V" } : Jvm.MethodName)) ∈ GW := gw_t3 34 rfl rfl
theorem w_471 : (Jvm.Cond.code ({ cls := "CardHouse", name := "passEvening", desc := "(I)V" } : Jvm.MethodName) prog_1_method_32_code (2 : Nat) (Option.none : Option Jvm.ClassFile.FieldType)) ∈ GW := gw_t3 35 rfl rfl
theorem w_472 : (Jvm.Cond.methodLink "CardHouseLaw" (124 : Nat) ({ cls := "CardHouse", name := "keep", desc := "(I)I" } : Jvm.MethodName)) ∈ GW := gw_t3 36 rfl rfl
theorem w_473 : (Jvm.Cond.instanceMethod ({ cls := "CardHouse", name := "keep", desc := "(I)I" } : Jvm.MethodName)) ∈ GW := gw_t3 37 rfl rfl
theorem w_474 : (Jvm.Cond.selects "CardHouse" ({ cls := "CardHouse", name := "keep", desc := "(I)I" } : Jvm.MethodName) ({ cls := "CardHouse", name := "keep", desc := "(I)I" } : Jvm.MethodName)) ∈ GW := gw_t3 38 rfl rfl
theorem w_475 : (Jvm.Cond.code ({ cls := "CardHouse", name := "keep", desc := "(I)I" } : Jvm.MethodName) prog_1_method_33_code (2 : Nat) (Option.some Jvm.ClassFile.FieldType.int)) ∈ GW := gw_t3 39 rfl rfl
theorem w_476 : (Jvm.Cond.methodLink "CardHouse" (244 : Nat) ({ cls := "CardHouse", name := "isSlot", desc := "(I)Z" } : Jvm.MethodName)) ∈ GW := gw_t3 40 rfl rfl
theorem w_477 : (Jvm.Cond.static ({ cls := "CardHouse", name := "isSlot", desc := "(I)Z" } : Jvm.MethodName)) ∈ GW := gw_t3 41 rfl rfl
theorem w_478 : (Jvm.Cond.code ({ cls := "CardHouse", name := "isSlot", desc := "(I)Z" } : Jvm.MethodName) prog_1_method_39_code (1 : Nat) (Option.some Jvm.ClassFile.FieldType.boolean)) ∈ GW := gw_t3 42 rfl rfl
theorem w_479 : (Jvm.Cond.methodLink "CardHouseLaw" (128 : Nat) ({ cls := "CardHouse", name := "again", desc := "(I)I" } : Jvm.MethodName)) ∈ GW := gw_t3 43 rfl rfl
theorem w_480 : (Jvm.Cond.instanceMethod ({ cls := "CardHouse", name := "again", desc := "(I)I" } : Jvm.MethodName)) ∈ GW := gw_t3 44 rfl rfl
theorem w_481 : (Jvm.Cond.selects "CardHouse" ({ cls := "CardHouse", name := "again", desc := "(I)I" } : Jvm.MethodName) ({ cls := "CardHouse", name := "again", desc := "(I)I" } : Jvm.MethodName)) ∈ GW := gw_t3 45 rfl rfl
theorem w_482 : (Jvm.Cond.code ({ cls := "CardHouse", name := "again", desc := "(I)I" } : Jvm.MethodName) prog_1_method_34_code (2 : Nat) (Option.some Jvm.ClassFile.FieldType.int)) ∈ GW := gw_t3 46 rfl rfl
theorem w_483 : (Jvm.Cond.classLink "CardHouseLaw" (10 : Nat) "CardHouseModel") ∈ GW := gw_t3 47 rfl rfl
theorem w_484 : (Jvm.Cond.instantiable "CardHouseModel" (26 : Nat)) ∈ GW := gw_t3 48 rfl rfl
theorem w_485 : (Jvm.Cond.methodLink "CardHouseLaw" (12 : Nat) ({ cls := "CardHouseModel", name := "<init>", desc := "()V" } : Jvm.MethodName)) ∈ GW := gw_t3 49 rfl rfl
theorem w_486 : (Jvm.Cond.instanceMethod ({ cls := "CardHouseModel", name := "<init>", desc := "()V" } : Jvm.MethodName)) ∈ GW := gw_t3 50 rfl rfl
theorem w_487 : (Jvm.Cond.code ({ cls := "CardHouseModel", name := "<init>", desc := "()V" } : Jvm.MethodName) prog_7_method_1_code (1 : Nat) (Option.none : Option Jvm.ClassFile.FieldType)) ∈ GW := gw_t3 51 rfl rfl
theorem w_488 : (Jvm.Cond.methodLink "CardHouseModel" (1 : Nat) ({ cls := "java/lang/Object", name := "<init>", desc := "()V" } : Jvm.MethodName)) ∈ GW := gw_t3 52 rfl rfl
theorem w_489 : (Jvm.Cond.fieldLink "CardHouseModel" (59 : Nat) "CardHouseModel" "thrown" "I") ∈ GW := gw_t3 53 rfl rfl
theorem w_490 : (Jvm.Cond.fieldLink "CardHouseModel" (7 : Nat) "CardHouseModel" "text" "[I") ∈ GW := gw_t3 54 rfl rfl
theorem w_491 : (Jvm.Cond.fieldLink "CardHouseModel" (116 : Nat) "CardHouseModel" "textSize" "I") ∈ GW := gw_t3 55 rfl rfl
theorem w_492 : (Jvm.Cond.fieldLink "CardHouseModel" (119 : Nat) "CardHouseModel" "place" "I") ∈ GW := gw_t3 56 rfl rfl
theorem w_493 : (Jvm.Cond.fieldLink "CardHouseModel" (13 : Nat) "CardHouseModel" "cards" "[I") ∈ GW := gw_t3 57 rfl rfl
theorem w_494 : (Jvm.Cond.fieldLink "CardHouseModel" (16 : Nat) "CardHouseModel" "readCards" "[I") ∈ GW := gw_t3 58 rfl rfl
theorem w_495 : (Jvm.Cond.fieldLink "CardHouseModel" (19 : Nat) "CardHouseModel" "readPage" "[I") ∈ GW := gw_t3 59 rfl rfl
theorem w_496 : (Jvm.Cond.fieldLink "CardHouseModel" (22 : Nat) "CardHouseModel" "page" "[I") ∈ GW := gw_t3 60 rfl rfl
theorem w_497 : (Jvm.Cond.fieldLink "CardHouseModel" (25 : Nat) "CardHouseModel" "trial" "[I") ∈ GW := gw_t3 61 rfl rfl
theorem w_498 : (Jvm.Cond.fieldLink "CardHouseModel" (28 : Nat) "CardHouseModel" "loads" "[I") ∈ GW := gw_t3 62 rfl rfl
theorem w_499 : (Jvm.Cond.fieldLink "CardHouseModel" (31 : Nat) "CardHouseModel" "book" "[I") ∈ GW := gw_t3 63 rfl rfl
theorem w_500 : (Jvm.Cond.fieldLink "CardHouseModel" (154 : Nat) "CardHouseModel" "acts" "I") ∈ GW := gw_t3 64 rfl rfl
theorem w_501 : (Jvm.Cond.fieldLink "CardHouseModel" (34 : Nat) "CardHouseModel" "kept" "[I") ∈ GW := gw_t3 65 rfl rfl
theorem w_502 : (Jvm.Cond.fieldLink "CardHouseModel" (37 : Nat) "CardHouseModel" "isKept" "[Z") ∈ GW := gw_t3 66 rfl rfl
theorem w_503 : (Jvm.Cond.fieldLink "CardHouseModel" (169 : Nat) "CardHouseModel" "held" "I") ∈ GW := gw_t3 67 rfl rfl
theorem w_504 : (Jvm.Cond.fieldLink "CardHouseModel" (41 : Nat) "CardHouseModel" "heldWho" "[I") ∈ GW := gw_t3 68 rfl rfl
theorem w_505 : (Jvm.Cond.fieldLink "CardHouseModel" (44 : Nat) "CardHouseModel" "heldForce" "[I") ∈ GW := gw_t3 69 rfl rfl
theorem w_506 : (Jvm.Cond.fieldLink "CardHouseModel" (47 : Nat) "CardHouseModel" "heldLoad" "[I") ∈ GW := gw_t3 70 rfl rfl
theorem w_507 : (Jvm.Cond.fieldLink "CardHouseModel" (50 : Nat) "CardHouseModel" "heldIs" "[I") ∈ GW := gw_t3 71 rfl rfl
theorem w_508 : (Jvm.Cond.fieldLink "CardHouseModel" (259 : Nat) "CardHouseModel" "seed" "J") ∈ GW := gw_t3 72 rfl rfl
theorem w_509 : (Jvm.Cond.fieldLink "CardHouseModel" (240 : Nat) "CardHouseModel" "tentMany" "I") ∈ GW := gw_t3 73 rfl rfl
theorem w_510 : (Jvm.Cond.fieldLink "CardHouseModel" (243 : Nat) "CardHouseModel" "tentFirst" "I") ∈ GW := gw_t3 74 rfl rfl
theorem w_511 : (Jvm.Cond.fieldLink "CardHouseModel" (246 : Nat) "CardHouseModel" "restMany" "I") ∈ GW := gw_t3 75 rfl rfl
theorem w_512 : (Jvm.Cond.fieldLink "CardHouseModel" (249 : Nat) "CardHouseModel" "restFirst" "I") ∈ GW := gw_t3 76 rfl rfl
theorem w_513 : (Jvm.Cond.fieldLink "CardHouseModel" (53 : Nat) "CardHouseModel" "gains" "[I") ∈ GW := gw_t3 77 rfl rfl
theorem w_514 : (Jvm.Cond.fieldLink "CardHouseModel" (56 : Nat) "CardHouseModel" "value" "[I") ∈ GW := gw_t3 78 rfl rfl
theorem w_515 : (Jvm.Cond.lays "CardHouseModel" "CardHouseModel" "thrown" "I") ∈ GW := gw_t3 79 rfl rfl
theorem w_516 : (Jvm.Cond.soleField "CardHouseModel" "thrown") ∈ GW := gw_t3 80 rfl rfl
theorem w_517 : (Jvm.Cond.laysFinal "CardHouseModel" "CardHouseModel" "text" "[I") ∈ GW := gw_t3 81 rfl rfl
theorem w_518 : (Jvm.Cond.soleField "CardHouseModel" "text") ∈ GW := gw_t3 82 rfl rfl
theorem w_519 : (Jvm.Cond.lays "CardHouseModel" "CardHouseModel" "textSize" "I") ∈ GW := gw_t3 83 rfl rfl
theorem w_520 : (Jvm.Cond.soleField "CardHouseModel" "textSize") ∈ GW := gw_t3 84 rfl rfl
theorem w_521 : (Jvm.Cond.lays "CardHouseModel" "CardHouseModel" "place" "I") ∈ GW := gw_t3 85 rfl rfl
theorem w_522 : (Jvm.Cond.soleField "CardHouseModel" "place") ∈ GW := gw_t3 86 rfl rfl
theorem w_523 : (Jvm.Cond.laysFinal "CardHouseModel" "CardHouseModel" "cards" "[I") ∈ GW := gw_t3 87 rfl rfl
theorem w_524 : (Jvm.Cond.soleField "CardHouseModel" "cards") ∈ GW := gw_t3 88 rfl rfl
theorem w_525 : (Jvm.Cond.laysFinal "CardHouseModel" "CardHouseModel" "readCards" "[I") ∈ GW := gw_t3 89 rfl rfl
theorem w_526 : (Jvm.Cond.soleField "CardHouseModel" "readCards") ∈ GW := gw_t3 90 rfl rfl
theorem w_527 : (Jvm.Cond.laysFinal "CardHouseModel" "CardHouseModel" "readPage" "[I") ∈ GW := gw_t3 91 rfl rfl
theorem w_528 : (Jvm.Cond.soleField "CardHouseModel" "readPage") ∈ GW := gw_t3 92 rfl rfl
theorem w_529 : (Jvm.Cond.laysFinal "CardHouseModel" "CardHouseModel" "page" "[I") ∈ GW := gw_t3 93 rfl rfl
theorem w_530 : (Jvm.Cond.soleField "CardHouseModel" "page") ∈ GW := gw_t3 94 rfl rfl
theorem w_531 : (Jvm.Cond.laysFinal "CardHouseModel" "CardHouseModel" "trial" "[I") ∈ GW := gw_t3 95 rfl rfl
theorem w_532 : (Jvm.Cond.soleField "CardHouseModel" "trial") ∈ GW := gw_t3 96 rfl rfl
theorem w_533 : (Jvm.Cond.laysFinal "CardHouseModel" "CardHouseModel" "loads" "[I") ∈ GW := gw_t3 97 rfl rfl
theorem w_534 : (Jvm.Cond.soleField "CardHouseModel" "loads") ∈ GW := gw_t3 98 rfl rfl
theorem w_535 : (Jvm.Cond.laysFinal "CardHouseModel" "CardHouseModel" "book" "[I") ∈ GW := gw_t3 99 rfl rfl
theorem w_536 : (Jvm.Cond.soleField "CardHouseModel" "book") ∈ GW := gw_t3 100 rfl rfl
theorem w_537 : (Jvm.Cond.lays "CardHouseModel" "CardHouseModel" "acts" "I") ∈ GW := gw_t3 101 rfl rfl
theorem w_538 : (Jvm.Cond.soleField "CardHouseModel" "acts") ∈ GW := gw_t3 102 rfl rfl
theorem w_539 : (Jvm.Cond.laysFinal "CardHouseModel" "CardHouseModel" "kept" "[I") ∈ GW := gw_t3 103 rfl rfl
theorem w_540 : (Jvm.Cond.soleField "CardHouseModel" "kept") ∈ GW := gw_t3 104 rfl rfl
theorem w_541 : (Jvm.Cond.laysFinal "CardHouseModel" "CardHouseModel" "isKept" "[Z") ∈ GW := gw_t3 105 rfl rfl
theorem w_542 : (Jvm.Cond.soleField "CardHouseModel" "isKept") ∈ GW := gw_t3 106 rfl rfl
theorem w_543 : (Jvm.Cond.lays "CardHouseModel" "CardHouseModel" "held" "I") ∈ GW := gw_t3 107 rfl rfl
theorem w_544 : (Jvm.Cond.soleField "CardHouseModel" "held") ∈ GW := gw_t3 108 rfl rfl
theorem w_545 : (Jvm.Cond.laysFinal "CardHouseModel" "CardHouseModel" "heldWho" "[I") ∈ GW := gw_t3 109 rfl rfl
theorem w_546 : (Jvm.Cond.soleField "CardHouseModel" "heldWho") ∈ GW := gw_t3 110 rfl rfl
theorem w_547 : (Jvm.Cond.laysFinal "CardHouseModel" "CardHouseModel" "heldForce" "[I") ∈ GW := gw_t3 111 rfl rfl
theorem w_548 : (Jvm.Cond.soleField "CardHouseModel" "heldForce") ∈ GW := gw_t3 112 rfl rfl
theorem w_549 : (Jvm.Cond.laysFinal "CardHouseModel" "CardHouseModel" "heldLoad" "[I") ∈ GW := gw_t3 113 rfl rfl
theorem w_550 : (Jvm.Cond.soleField "CardHouseModel" "heldLoad") ∈ GW := gw_t3 114 rfl rfl
theorem w_551 : (Jvm.Cond.laysFinal "CardHouseModel" "CardHouseModel" "heldIs" "[I") ∈ GW := gw_t3 115 rfl rfl
theorem w_552 : (Jvm.Cond.soleField "CardHouseModel" "heldIs") ∈ GW := gw_t3 116 rfl rfl
theorem w_553 : (Jvm.Cond.lays "CardHouseModel" "CardHouseModel" "seed" "J") ∈ GW := gw_t3 117 rfl rfl
theorem w_554 : (Jvm.Cond.soleField "CardHouseModel" "seed") ∈ GW := gw_t3 118 rfl rfl
theorem w_555 : (Jvm.Cond.lays "CardHouseModel" "CardHouseModel" "tentMany" "I") ∈ GW := gw_t3 119 rfl rfl
theorem w_556 : (Jvm.Cond.soleField "CardHouseModel" "tentMany") ∈ GW := gw_t3 120 rfl rfl
theorem w_557 : (Jvm.Cond.lays "CardHouseModel" "CardHouseModel" "tentFirst" "I") ∈ GW := gw_t3 121 rfl rfl
theorem w_558 : (Jvm.Cond.soleField "CardHouseModel" "tentFirst") ∈ GW := gw_t3 122 rfl rfl
theorem w_559 : (Jvm.Cond.lays "CardHouseModel" "CardHouseModel" "restMany" "I") ∈ GW := gw_t3 123 rfl rfl
theorem w_560 : (Jvm.Cond.soleField "CardHouseModel" "restMany") ∈ GW := gw_t3 124 rfl rfl
theorem w_561 : (Jvm.Cond.lays "CardHouseModel" "CardHouseModel" "restFirst" "I") ∈ GW := gw_t3 125 rfl rfl
theorem w_562 : (Jvm.Cond.soleField "CardHouseModel" "restFirst") ∈ GW := gw_t3 126 rfl rfl
theorem w_563 : (Jvm.Cond.laysFinal "CardHouseModel" "CardHouseModel" "gains" "[I") ∈ GW := gw_t3 127 rfl rfl
theorem w_564 : (Jvm.Cond.soleField "CardHouseModel" "gains") ∈ GW := gw_t3 128 rfl rfl
theorem w_565 : (Jvm.Cond.laysFinal "CardHouseModel" "CardHouseModel" "value" "[I") ∈ GW := gw_t3 129 rfl rfl
theorem w_566 : (Jvm.Cond.soleField "CardHouseModel" "value") ∈ GW := gw_t3 130 rfl rfl
theorem w_567 : (Jvm.Cond.superclass "CardHouseModel" "java/lang/Object") ∈ GW := gw_t3 131 rfl rfl
theorem w_568 : (Jvm.Cond.arrayClass Jvm.ClassFile.FieldType.boolean) ∈ GW := gw_t3 132 rfl rfl
theorem w_569 : (Jvm.Cond.methodLink "CardHouseLaw" (17 : Nat) ({ cls := "CardHouseModel", name := "write", desc := "(I)I" } : Jvm.MethodName)) ∈ GW := gw_t3 133 rfl rfl
theorem w_570 : (Jvm.Cond.instanceMethod ({ cls := "CardHouseModel", name := "write", desc := "(I)I" } : Jvm.MethodName)) ∈ GW := gw_t3 134 rfl rfl
theorem w_571 : (Jvm.Cond.selects "CardHouseModel" ({ cls := "CardHouseModel", name := "write", desc := "(I)I" } : Jvm.MethodName) ({ cls := "CardHouseModel", name := "write", desc := "(I)I" } : Jvm.MethodName)) ∈ GW := gw_t3 135 rfl rfl
theorem w_572 : (Jvm.Cond.code ({ cls := "CardHouseModel", name := "write", desc := "(I)I" } : Jvm.MethodName) prog_7_method_24_code (2 : Nat) (Option.some Jvm.ClassFile.FieldType.int)) ∈ GW := gw_t3 136 rfl rfl
theorem w_573 : (Jvm.Cond.constantLong "CardHouseModel" (114 : Nat) (255 : Int64)) ∈ GW := gw_t3 137 rfl rfl
theorem w_574 : (Jvm.Cond.methodLink "CardHouseModel" (65 : Nat) ({ cls := "CardHouseModel", name := "in", desc := "(JJJ)Z" } : Jvm.MethodName)) ∈ GW := gw_t3 138 rfl rfl
theorem w_575 : (Jvm.Cond.static ({ cls := "CardHouseModel", name := "in", desc := "(JJJ)Z" } : Jvm.MethodName)) ∈ GW := gw_t3 139 rfl rfl
theorem w_576 : (Jvm.Cond.code ({ cls := "CardHouseModel", name := "in", desc := "(JJJ)Z" } : Jvm.MethodName) prog_7_method_3_code (6 : Nat) (Option.some Jvm.ClassFile.FieldType.boolean)) ∈ GW := gw_t3 140 rfl rfl
theorem w_577 : (Jvm.Cond.methodLink "CardHouseLaw" (22 : Nat) ({ cls := "CardHouseModel", name := "wipe", desc := "()I" } : Jvm.MethodName)) ∈ GW := gw_t3 141 rfl rfl
theorem w_578 : (Jvm.Cond.instanceMethod ({ cls := "CardHouseModel", name := "wipe", desc := "()I" } : Jvm.MethodName)) ∈ GW := gw_t3 142 rfl rfl
theorem w_579 : (Jvm.Cond.selects "CardHouseModel" ({ cls := "CardHouseModel", name := "wipe", desc := "()I" } : Jvm.MethodName) ({ cls := "CardHouseModel", name := "wipe", desc := "()I" } : Jvm.MethodName)) ∈ GW := gw_t3 143 rfl rfl
theorem w_580 : (Jvm.Cond.code ({ cls := "CardHouseModel", name := "wipe", desc := "()I" } : Jvm.MethodName) prog_7_method_25_code (2 : Nat) (Option.some Jvm.ClassFile.FieldType.int)) ∈ GW := gw_t3 144 rfl rfl
theorem w_581 : (Jvm.Cond.methodLink "CardHouseLaw" (26 : Nat) ({ cls := "CardHouseModel", name := "fault", desc := "()I" } : Jvm.MethodName)) ∈ GW := gw_t3 145 rfl rfl
theorem w_582 : (Jvm.Cond.instanceMethod ({ cls := "CardHouseModel", name := "fault", desc := "()I" } : Jvm.MethodName)) ∈ GW := gw_t3 146 rfl rfl
theorem w_583 : (Jvm.Cond.selects "CardHouseModel" ({ cls := "CardHouseModel", name := "fault", desc := "()I" } : Jvm.MethodName) ({ cls := "CardHouseModel", name := "fault", desc := "()I" } : Jvm.MethodName)) ∈ GW := gw_t3 147 rfl rfl
theorem w_584 : (Jvm.Cond.code ({ cls := "CardHouseModel", name := "fault", desc := "()I" } : Jvm.MethodName) prog_7_method_33_code (1 : Nat) (Option.some Jvm.ClassFile.FieldType.int)) ∈ GW := gw_t3 148 rfl rfl
theorem w_585 : (Jvm.Cond.methodLink "CardHouseModel" (147 : Nat) ({ cls := "CardHouseModel", name := "readHouse", desc := "()I" } : Jvm.MethodName)) ∈ GW := gw_t3 149 rfl rfl
theorem w_586 : (Jvm.Cond.instanceMethod ({ cls := "CardHouseModel", name := "readHouse", desc := "()I" } : Jvm.MethodName)) ∈ GW := gw_t3 151 rfl rfl
theorem w_587 : (Jvm.Cond.code ({ cls := "CardHouseModel", name := "readHouse", desc := "()I" } : Jvm.MethodName) prog_7_method_32_code (2 : Nat) (Option.some Jvm.ClassFile.FieldType.int)) ∈ GW := gw_t3 152 rfl rfl
theorem w_588 : (Jvm.Cond.methodLink "CardHouseModel" (141 : Nat) ({ cls := "CardHouseModel", name := "readHead", desc := "()Z" } : Jvm.MethodName)) ∈ GW := gw_t3 153 rfl rfl
theorem w_589 : (Jvm.Cond.instanceMethod ({ cls := "CardHouseModel", name := "readHead", desc := "()Z" } : Jvm.MethodName)) ∈ GW := gw_t3 155 rfl rfl
theorem w_590 : (Jvm.Cond.code ({ cls := "CardHouseModel", name := "readHead", desc := "()Z" } : Jvm.MethodName) prog_7_method_31_code (3 : Nat) (Option.some Jvm.ClassFile.FieldType.boolean)) ∈ GW := gw_t3 156 rfl rfl
theorem w_591 : (Jvm.Cond.methodLink "CardHouseModel" (138 : Nat) ({ cls := "CardHouseModel", name := "figure", desc := "(I)I" } : Jvm.MethodName)) ∈ GW := gw_t3 157 rfl rfl
theorem w_592 : (Jvm.Cond.instanceMethod ({ cls := "CardHouseModel", name := "figure", desc := "(I)I" } : Jvm.MethodName)) ∈ GW := gw_t3 159 rfl rfl
theorem w_593 : (Jvm.Cond.code ({ cls := "CardHouseModel", name := "figure", desc := "(I)I" } : Jvm.MethodName) prog_7_method_26_code (2 : Nat) (Option.some Jvm.ClassFile.FieldType.int)) ∈ GW := gw_t3 160 rfl rfl
theorem w_594 : (Jvm.Cond.methodLink "CardHouseModel" (144 : Nat) ({ cls := "CardHouseModel", name := "readPiece", desc := "()Z" } : Jvm.MethodName)) ∈ GW := gw_t3 161 rfl rfl
theorem w_595 : (Jvm.Cond.instanceMethod ({ cls := "CardHouseModel", name := "readPiece", desc := "()Z" } : Jvm.MethodName)) ∈ GW := gw_t3 163 rfl rfl
theorem w_596 : (Jvm.Cond.code ({ cls := "CardHouseModel", name := "readPiece", desc := "()Z" } : Jvm.MethodName) prog_7_method_30_code (3 : Nat) (Option.some Jvm.ClassFile.FieldType.boolean)) ∈ GW := gw_t3 164 rfl rfl
theorem w_597 : (Jvm.Cond.methodLink "CardHouseModel" (131 : Nat) ({ cls := "CardHouseModel", name := "couldAny", desc := "()Z" } : Jvm.MethodName)) ∈ GW := gw_t3 165 rfl rfl
theorem w_598 : (Jvm.Cond.instanceMethod ({ cls := "CardHouseModel", name := "couldAny", desc := "()Z" } : Jvm.MethodName)) ∈ GW := gw_t3 167 rfl rfl
theorem w_599 : (Jvm.Cond.code ({ cls := "CardHouseModel", name := "couldAny", desc := "()Z" } : Jvm.MethodName) prog_7_method_29_code (3 : Nat) (Option.some Jvm.ClassFile.FieldType.boolean)) ∈ GW := gw_t3 168 rfl rfl
theorem w_600 : (Jvm.Cond.methodLink "CardHouseModel" (128 : Nat) ({ cls := "CardHouseModel", name := "couldCome", desc := "(I)Z" } : Jvm.MethodName)) ∈ GW := gw_t3 169 rfl rfl
theorem w_601 : (Jvm.Cond.instanceMethod ({ cls := "CardHouseModel", name := "couldCome", desc := "(I)Z" } : Jvm.MethodName)) ∈ GW := gw_t3 171 rfl rfl
theorem w_602 : (Jvm.Cond.code ({ cls := "CardHouseModel", name := "couldCome", desc := "(I)Z" } : Jvm.MethodName) prog_7_method_28_code (2 : Nat) (Option.some Jvm.ClassFile.FieldType.boolean)) ∈ GW := gw_t3 172 rfl rfl
theorem w_603 : (Jvm.Cond.methodLink "CardHouseModel" (87 : Nat) ({ cls := "CardHouseModel", name := "below", desc := "(I)I" } : Jvm.MethodName)) ∈ GW := gw_t3 173 rfl rfl
theorem w_604 : (Jvm.Cond.static ({ cls := "CardHouseModel", name := "below", desc := "(I)I" } : Jvm.MethodName)) ∈ GW := gw_t3 174 rfl rfl
theorem w_605 : (Jvm.Cond.code ({ cls := "CardHouseModel", name := "below", desc := "(I)I" } : Jvm.MethodName) prog_7_method_12_code (1 : Nat) (Option.some Jvm.ClassFile.FieldType.int)) ∈ GW := gw_t3 175 rfl rfl
theorem w_606 : (Jvm.Cond.methodLink "CardHouseModel" (122 : Nat) ({ cls := "CardHouseModel", name := "there", desc := "([I)I" } : Jvm.MethodName)) ∈ GW := gw_t3 176 rfl rfl
theorem w_607 : (Jvm.Cond.static ({ cls := "CardHouseModel", name := "there", desc := "([I)I" } : Jvm.MethodName)) ∈ GW := gw_t3 177 rfl rfl
theorem w_608 : (Jvm.Cond.code ({ cls := "CardHouseModel", name := "there", desc := "([I)I" } : Jvm.MethodName) prog_7_method_16_code (3 : Nat) (Option.some Jvm.ClassFile.FieldType.int)) ∈ GW := gw_t3 178 rfl rfl
theorem w_609 : (Jvm.Cond.methodLink "CardHouseModel" (125 : Nat) ({ cls := "CardHouseModel", name := "enough", desc := "(II)Z" } : Jvm.MethodName)) ∈ GW := gw_t3 179 rfl rfl
theorem w_610 : (Jvm.Cond.instanceMethod ({ cls := "CardHouseModel", name := "enough", desc := "(II)Z" } : Jvm.MethodName)) ∈ GW := gw_t3 181 rfl rfl
theorem w_611 : (Jvm.Cond.code ({ cls := "CardHouseModel", name := "enough", desc := "(II)Z" } : Jvm.MethodName) prog_7_method_27_code (3 : Nat) (Option.some Jvm.ClassFile.FieldType.boolean)) ∈ GW := gw_t3 182 rfl rfl
theorem w_612 : (Jvm.Cond.methodLink "CardHouseModel" (79 : Nat) ({ cls := "CardHouseModel", name := "used", desc := "([II)I" } : Jvm.MethodName)) ∈ GW := gw_t3 183 rfl rfl
theorem w_613 : (Jvm.Cond.static ({ cls := "CardHouseModel", name := "used", desc := "([II)I" } : Jvm.MethodName)) ∈ GW := gw_t3 184 rfl rfl
theorem w_614 : (Jvm.Cond.code ({ cls := "CardHouseModel", name := "used", desc := "([II)I" } : Jvm.MethodName) prog_7_method_17_code (4 : Nat) (Option.some Jvm.ClassFile.FieldType.int)) ∈ GW := gw_t3 185 rfl rfl
theorem w_615 : (Jvm.Cond.methodLink "CardHouseModel" (75 : Nat) ({ cls := "CardHouseModel", name := "need", desc := "(I)I" } : Jvm.MethodName)) ∈ GW := gw_t3 186 rfl rfl
theorem w_616 : (Jvm.Cond.static ({ cls := "CardHouseModel", name := "need", desc := "(I)I" } : Jvm.MethodName)) ∈ GW := gw_t3 187 rfl rfl
theorem w_617 : (Jvm.Cond.code ({ cls := "CardHouseModel", name := "need", desc := "(I)I" } : Jvm.MethodName) prog_7_method_11_code (1 : Nat) (Option.some Jvm.ClassFile.FieldType.int)) ∈ GW := gw_t3 188 rfl rfl
theorem w_618 : (Jvm.Cond.methodLink "CardHouseModel" (71 : Nat) ({ cls := "CardHouseModel", name := "isFlat", desc := "(I)Z" } : Jvm.MethodName)) ∈ GW := gw_t3 189 rfl rfl
theorem w_619 : (Jvm.Cond.static ({ cls := "CardHouseModel", name := "isFlat", desc := "(I)Z" } : Jvm.MethodName)) ∈ GW := gw_t3 190 rfl rfl
theorem w_620 : (Jvm.Cond.code ({ cls := "CardHouseModel", name := "isFlat", desc := "(I)Z" } : Jvm.MethodName) prog_7_method_10_code (1 : Nat) (Option.some Jvm.ClassFile.FieldType.boolean)) ∈ GW := gw_t3 191 rfl rfl
theorem w_621 : (Jvm.Cond.methodLink "CardHouseModel" (135 : Nat) ({ cls := "CardHouseModel", name := "noPiece", desc := "(I)Z" } : Jvm.MethodName)) ∈ GW := gw_t3 192 rfl rfl
theorem w_622 : (Jvm.Cond.static ({ cls := "CardHouseModel", name := "noPiece", desc := "(I)Z" } : Jvm.MethodName)) ∈ GW := gw_t3 193 rfl rfl
theorem w_623 : (Jvm.Cond.code ({ cls := "CardHouseModel", name := "noPiece", desc := "(I)Z" } : Jvm.MethodName) prog_7_method_7_code (1 : Nat) (Option.some Jvm.ClassFile.FieldType.boolean)) ∈ GW := gw_t3 194 rfl rfl
theorem w_624 : (Jvm.Cond.constantLong "CardHouseModel" (63 : Nat) (15 : Int64)) ∈ GW := gw_t3 195 rfl rfl
theorem w_625 : (Jvm.Cond.methodLink "CardHouseLaw" (30 : Nat) ({ cls := "CardHouseModel", name := "house", desc := "()I" } : Jvm.MethodName)) ∈ GW := gw_t3 196 rfl rfl
theorem w_626 : (Jvm.Cond.instanceMethod ({ cls := "CardHouseModel", name := "house", desc := "()I" } : Jvm.MethodName)) ∈ GW := gw_t3 197 rfl rfl
theorem w_627 : (Jvm.Cond.selects "CardHouseModel" ({ cls := "CardHouseModel", name := "house", desc := "()I" } : Jvm.MethodName) ({ cls := "CardHouseModel", name := "house", desc := "()I" } : Jvm.MethodName)) ∈ GW := gw_t3 198 rfl rfl
theorem w_628 : (Jvm.Cond.code ({ cls := "CardHouseModel", name := "house", desc := "()I" } : Jvm.MethodName) prog_7_method_34_code (2 : Nat) (Option.some Jvm.ClassFile.FieldType.int)) ∈ GW := gw_t3 199 rfl rfl
theorem w_629 : (Jvm.Cond.methodLink "CardHouseModel" (151 : Nat) ({ cls := "CardHouseModel", name := "settle", desc := "([I)I" } : Jvm.MethodName)) ∈ GW := gw_t3 200 rfl rfl
theorem w_630 : (Jvm.Cond.instanceMethod ({ cls := "CardHouseModel", name := "settle", desc := "([I)I" } : Jvm.MethodName)) ∈ GW := gw_t3 202 rfl rfl
theorem w_631 : (Jvm.Cond.code ({ cls := "CardHouseModel", name := "settle", desc := "([I)I" } : Jvm.MethodName) prog_7_method_23_code (4 : Nat) (Option.some Jvm.ClassFile.FieldType.int)) ∈ GW := gw_t3 203 rfl rfl
theorem w_632 : (Jvm.Cond.methodLink "CardHouseModel" (107 : Nat) ({ cls := "CardHouseModel", name := "weak", desc := "([I)I" } : Jvm.MethodName)) ∈ GW := gw_t3 204 rfl rfl
theorem w_633 : (Jvm.Cond.instanceMethod ({ cls := "CardHouseModel", name := "weak", desc := "([I)I" } : Jvm.MethodName)) ∈ GW := gw_t3 206 rfl rfl
theorem w_634 : (Jvm.Cond.code ({ cls := "CardHouseModel", name := "weak", desc := "([I)I" } : Jvm.MethodName) prog_7_method_22_code (4 : Nat) (Option.some Jvm.ClassFile.FieldType.int)) ∈ GW := gw_t3 207 rfl rfl
theorem w_635 : (Jvm.Cond.methodLink "CardHouseModel" (100 : Nat) ({ cls := "CardHouseModel", name := "layLoads", desc := "([I)V" } : Jvm.MethodName)) ∈ GW := gw_t3 208 rfl rfl
theorem w_636 : (Jvm.Cond.instanceMethod ({ cls := "CardHouseModel", name := "layLoads", desc := "([I)V" } : Jvm.MethodName)) ∈ GW := gw_t3 210 rfl rfl
theorem w_637 : (Jvm.Cond.code ({ cls := "CardHouseModel", name := "layLoads", desc := "([I)V" } : Jvm.MethodName) prog_7_method_19_code (5 : Nat) (Option.none : Option Jvm.ClassFile.FieldType)) ∈ GW := gw_t3 211 rfl rfl
theorem w_638 : (Jvm.Cond.methodLink "CardHouseModel" (83 : Nat) ({ cls := "CardHouseModel", name := "weighs", desc := "(II)I" } : Jvm.MethodName)) ∈ GW := gw_t3 212 rfl rfl
theorem w_639 : (Jvm.Cond.static ({ cls := "CardHouseModel", name := "weighs", desc := "(II)I" } : Jvm.MethodName)) ∈ GW := gw_t3 213 rfl rfl
theorem w_640 : (Jvm.Cond.code ({ cls := "CardHouseModel", name := "weighs", desc := "(II)I" } : Jvm.MethodName) prog_7_method_13_code (2 : Nat) (Option.some Jvm.ClassFile.FieldType.int)) ∈ GW := gw_t3 214 rfl rfl
theorem w_641 : (Jvm.Cond.methodLink "CardHouseModel" (90 : Nat) ({ cls := "CardHouseModel", name := "has", desc := "(II)Z" } : Jvm.MethodName)) ∈ GW := gw_t3 215 rfl rfl
theorem w_642 : (Jvm.Cond.static ({ cls := "CardHouseModel", name := "has", desc := "(II)Z" } : Jvm.MethodName)) ∈ GW := gw_t3 216 rfl rfl
theorem w_643 : (Jvm.Cond.code ({ cls := "CardHouseModel", name := "has", desc := "(II)Z" } : Jvm.MethodName) prog_7_method_4_code (2 : Nat) (Option.some Jvm.ClassFile.FieldType.boolean)) ∈ GW := gw_t3 217 rfl rfl
theorem w_644 : (Jvm.Cond.methodLink "CardHouseModel" (104 : Nat) ({ cls := "CardHouseModel", name := "bearsBy", desc := "(I)I" } : Jvm.MethodName)) ∈ GW := gw_t3 218 rfl rfl
theorem w_645 : (Jvm.Cond.static ({ cls := "CardHouseModel", name := "bearsBy", desc := "(I)I" } : Jvm.MethodName)) ∈ GW := gw_t3 219 rfl rfl
theorem w_646 : (Jvm.Cond.code ({ cls := "CardHouseModel", name := "bearsBy", desc := "(I)I" } : Jvm.MethodName) prog_7_method_14_code (1 : Nat) (Option.some Jvm.ClassFile.FieldType.int)) ∈ GW := gw_t3 220 rfl rfl
theorem w_647 : (Jvm.Cond.methodLink "CardHouseModel" (111 : Nat) ({ cls := "CardHouseModel", name := "fallAll", desc := "([II)I" } : Jvm.MethodName)) ∈ GW := gw_t3 221 rfl rfl
theorem w_648 : (Jvm.Cond.static ({ cls := "CardHouseModel", name := "fallAll", desc := "([II)I" } : Jvm.MethodName)) ∈ GW := gw_t3 222 rfl rfl
theorem w_649 : (Jvm.Cond.code ({ cls := "CardHouseModel", name := "fallAll", desc := "([II)I" } : Jvm.MethodName) prog_7_method_21_code (4 : Nat) (Option.some Jvm.ClassFile.FieldType.int)) ∈ GW := gw_t3 223 rfl rfl
theorem w_650 : (Jvm.Cond.methodLink "CardHouseModel" (94 : Nat) ({ cls := "CardHouseModel", name := "spreadOf", desc := "([II)I" } : Jvm.MethodName)) ∈ GW := gw_t3 224 rfl rfl
theorem w_651 : (Jvm.Cond.static ({ cls := "CardHouseModel", name := "spreadOf", desc := "([II)I" } : Jvm.MethodName)) ∈ GW := gw_t3 225 rfl rfl
theorem w_652 : (Jvm.Cond.code ({ cls := "CardHouseModel", name := "spreadOf", desc := "([II)I" } : Jvm.MethodName) prog_7_method_20_code (4 : Nat) (Option.some Jvm.ClassFile.FieldType.int)) ∈ GW := gw_t3 226 rfl rfl
theorem w_653 : (Jvm.Cond.methodLink "CardHouseModel" (97 : Nat) ({ cls := "CardHouseModel", name := "many", desc := "(I)I" } : Jvm.MethodName)) ∈ GW := gw_t3 227 rfl rfl
theorem w_654 : (Jvm.Cond.static ({ cls := "CardHouseModel", name := "many", desc := "(I)I" } : Jvm.MethodName)) ∈ GW := gw_t3 228 rfl rfl
theorem w_655 : (Jvm.Cond.code ({ cls := "CardHouseModel", name := "many", desc := "(I)I" } : Jvm.MethodName) prog_7_method_5_code (3 : Nat) (Option.some Jvm.ClassFile.FieldType.int)) ∈ GW := gw_t3 229 rfl rfl
theorem w_656 : (Jvm.Cond.methodLink "CardHouseLaw" (34 : Nat) ({ cls := "CardHouseModel", name := "about", desc := "(I)I" } : Jvm.MethodName)) ∈ GW := gw_t3 230 rfl rfl
theorem w_657 : (Jvm.Cond.instanceMethod ({ cls := "CardHouseModel", name := "about", desc := "(I)I" } : Jvm.MethodName)) ∈ GW := gw_t3 231 rfl rfl
theorem w_658 : (Jvm.Cond.selects "CardHouseModel" ({ cls := "CardHouseModel", name := "about", desc := "(I)I" } : Jvm.MethodName) ({ cls := "CardHouseModel", name := "about", desc := "(I)I" } : Jvm.MethodName)) ∈ GW := gw_t3 232 rfl rfl
theorem w_659 : (Jvm.Cond.code ({ cls := "CardHouseModel", name := "about", desc := "(I)I" } : Jvm.MethodName) prog_7_method_37_code (2 : Nat) (Option.some Jvm.ClassFile.FieldType.int)) ∈ GW := gw_t3 233 rfl rfl
theorem w_660 : (Jvm.Cond.methodLink "CardHouseModel" (163 : Nat) ({ cls := "CardHouseModel", name := "deckAll", desc := "()I" } : Jvm.MethodName)) ∈ GW := gw_t3 234 rfl rfl
theorem w_661 : (Jvm.Cond.instanceMethod ({ cls := "CardHouseModel", name := "deckAll", desc := "()I" } : Jvm.MethodName)) ∈ GW := gw_t3 236 rfl rfl
theorem w_662 : (Jvm.Cond.code ({ cls := "CardHouseModel", name := "deckAll", desc := "()I" } : Jvm.MethodName) prog_7_method_35_code (1 : Nat) (Option.some Jvm.ClassFile.FieldType.int)) ∈ GW := gw_t3 237 rfl rfl
theorem w_663 : (Jvm.Cond.methodLink "CardHouseModel" (157 : Nat) ({ cls := "CardHouseModel", name := "left", desc := "([II)I" } : Jvm.MethodName)) ∈ GW := gw_t3 238 rfl rfl
theorem w_664 : (Jvm.Cond.instanceMethod ({ cls := "CardHouseModel", name := "left", desc := "([II)I" } : Jvm.MethodName)) ∈ GW := gw_t4 0 rfl rfl
theorem w_665 : (Jvm.Cond.code ({ cls := "CardHouseModel", name := "left", desc := "([II)I" } : Jvm.MethodName) prog_7_method_18_code (3 : Nat) (Option.some Jvm.ClassFile.FieldType.int)) ∈ GW := gw_t4 1 rfl rfl
theorem w_666 : (Jvm.Cond.methodLink "CardHouseModel" (166 : Nat) ({ cls := "CardHouseModel", name := "highest", desc := "()I" } : Jvm.MethodName)) ∈ GW := gw_t4 2 rfl rfl
theorem w_667 : (Jvm.Cond.instanceMethod ({ cls := "CardHouseModel", name := "highest", desc := "()I" } : Jvm.MethodName)) ∈ GW := gw_t4 4 rfl rfl
theorem w_668 : (Jvm.Cond.code ({ cls := "CardHouseModel", name := "highest", desc := "()I" } : Jvm.MethodName) prog_7_method_36_code (3 : Nat) (Option.some Jvm.ClassFile.FieldType.int)) ∈ GW := gw_t4 5 rfl rfl
theorem w_669 : (Jvm.Cond.methodLink "CardHouseModel" (160 : Nat) ({ cls := "CardHouseModel", name := "level", desc := "(I)I" } : Jvm.MethodName)) ∈ GW := gw_t4 6 rfl rfl
theorem w_670 : (Jvm.Cond.static ({ cls := "CardHouseModel", name := "level", desc := "(I)I" } : Jvm.MethodName)) ∈ GW := gw_t4 7 rfl rfl
theorem w_671 : (Jvm.Cond.code ({ cls := "CardHouseModel", name := "level", desc := "(I)I" } : Jvm.MethodName) prog_7_method_9_code (1 : Nat) (Option.some Jvm.ClassFile.FieldType.int)) ∈ GW := gw_t4 8 rfl rfl
theorem w_672 : (Jvm.Cond.methodLink "CardHouseLaw" (38 : Nat) ({ cls := "CardHouseModel", name := "deck", desc := "(I)I" } : Jvm.MethodName)) ∈ GW := gw_t4 9 rfl rfl
theorem w_673 : (Jvm.Cond.instanceMethod ({ cls := "CardHouseModel", name := "deck", desc := "(I)I" } : Jvm.MethodName)) ∈ GW := gw_t4 10 rfl rfl
theorem w_674 : (Jvm.Cond.selects "CardHouseModel" ({ cls := "CardHouseModel", name := "deck", desc := "(I)I" } : Jvm.MethodName) ({ cls := "CardHouseModel", name := "deck", desc := "(I)I" } : Jvm.MethodName)) ∈ GW := gw_t4 11 rfl rfl
theorem w_675 : (Jvm.Cond.code ({ cls := "CardHouseModel", name := "deck", desc := "(I)I" } : Jvm.MethodName) prog_7_method_38_code (2 : Nat) (Option.some Jvm.ClassFile.FieldType.int)) ∈ GW := gw_t4 12 rfl rfl
theorem w_676 : (Jvm.Cond.methodLink "CardHouseModel" (172 : Nat) ({ cls := "CardHouseModel", name := "noKind", desc := "(I)Z" } : Jvm.MethodName)) ∈ GW := gw_t4 13 rfl rfl
theorem w_677 : (Jvm.Cond.static ({ cls := "CardHouseModel", name := "noKind", desc := "(I)Z" } : Jvm.MethodName)) ∈ GW := gw_t4 14 rfl rfl
theorem w_678 : (Jvm.Cond.code ({ cls := "CardHouseModel", name := "noKind", desc := "(I)Z" } : Jvm.MethodName) prog_7_method_8_code (1 : Nat) (Option.some Jvm.ClassFile.FieldType.boolean)) ∈ GW := gw_t4 15 rfl rfl
theorem w_679 : (Jvm.Cond.constantLong "CardHouseModel" (69 : Nat) (3 : Int64)) ∈ GW := gw_t4 16 rfl rfl
theorem w_680 : (Jvm.Cond.methodLink "CardHouseLaw" (43 : Nat) ({ cls := "CardHouseModel", name := "piece", desc := "(II)I" } : Jvm.MethodName)) ∈ GW := gw_t4 17 rfl rfl
theorem w_681 : (Jvm.Cond.instanceMethod ({ cls := "CardHouseModel", name := "piece", desc := "(II)I" } : Jvm.MethodName)) ∈ GW := gw_t4 18 rfl rfl
theorem w_682 : (Jvm.Cond.selects "CardHouseModel" ({ cls := "CardHouseModel", name := "piece", desc := "(II)I" } : Jvm.MethodName) ({ cls := "CardHouseModel", name := "piece", desc := "(II)I" } : Jvm.MethodName)) ∈ GW := gw_t4 19 rfl rfl
theorem w_683 : (Jvm.Cond.code ({ cls := "CardHouseModel", name := "piece", desc := "(II)I" } : Jvm.MethodName) prog_7_method_40_code (3 : Nat) (Option.some Jvm.ClassFile.FieldType.int)) ∈ GW := gw_t4 20 rfl rfl
theorem w_684 : (Jvm.Cond.constantLong "CardHouseModel" (175 : Nat) (4 : Int64)) ∈ GW := gw_t4 21 rfl rfl
theorem w_685 : (Jvm.Cond.methodLink "CardHouseModel" (177 : Nat) ({ cls := "CardHouseModel", name := "isTop", desc := "([II)Z" } : Jvm.MethodName)) ∈ GW := gw_t4 22 rfl rfl
theorem w_686 : (Jvm.Cond.static ({ cls := "CardHouseModel", name := "isTop", desc := "([II)Z" } : Jvm.MethodName)) ∈ GW := gw_t4 23 rfl rfl
theorem w_687 : (Jvm.Cond.code ({ cls := "CardHouseModel", name := "isTop", desc := "([II)Z" } : Jvm.MethodName) prog_7_method_39_code (2 : Nat) (Option.some Jvm.ClassFile.FieldType.boolean)) ∈ GW := gw_t4 24 rfl rfl
theorem w_688 : (Jvm.Cond.methodLink "CardHouseLaw" (47 : Nat) ({ cls := "CardHouseModel", name := "put", desc := "(II)I" } : Jvm.MethodName)) ∈ GW := gw_t4 25 rfl rfl
theorem w_689 : (Jvm.Cond.instanceMethod ({ cls := "CardHouseModel", name := "put", desc := "(II)I" } : Jvm.MethodName)) ∈ GW := gw_t4 26 rfl rfl
theorem w_690 : (Jvm.Cond.selects "CardHouseModel" ({ cls := "CardHouseModel", name := "put", desc := "(II)I" } : Jvm.MethodName) ({ cls := "CardHouseModel", name := "put", desc := "(II)I" } : Jvm.MethodName)) ∈ GW := gw_t4 27 rfl rfl
theorem w_691 : (Jvm.Cond.code ({ cls := "CardHouseModel", name := "put", desc := "(II)I" } : Jvm.MethodName) prog_7_method_44_code (3 : Nat) (Option.some Jvm.ClassFile.FieldType.int)) ∈ GW := gw_t4 28 rfl rfl
theorem w_692 : (Jvm.Cond.methodLink "CardHouseModel" (181 : Nat) ({ cls := "CardHouseModel", name := "canPut", desc := "([III)Z" } : Jvm.MethodName)) ∈ GW := gw_t4 29 rfl rfl
theorem w_693 : (Jvm.Cond.instanceMethod ({ cls := "CardHouseModel", name := "canPut", desc := "([III)Z" } : Jvm.MethodName)) ∈ GW := gw_t4 31 rfl rfl
theorem w_694 : (Jvm.Cond.code ({ cls := "CardHouseModel", name := "canPut", desc := "([III)Z" } : Jvm.MethodName) prog_7_method_42_code (4 : Nat) (Option.some Jvm.ClassFile.FieldType.boolean)) ∈ GW := gw_t4 32 rfl rfl
theorem w_695 : (Jvm.Cond.methodLink "CardHouseModel" (185 : Nat) ({ cls := "CardHouseModel", name := "note", desc := "()V" } : Jvm.MethodName)) ∈ GW := gw_t4 33 rfl rfl
theorem w_696 : (Jvm.Cond.instanceMethod ({ cls := "CardHouseModel", name := "note", desc := "()V" } : Jvm.MethodName)) ∈ GW := gw_t4 35 rfl rfl
theorem w_697 : (Jvm.Cond.code ({ cls := "CardHouseModel", name := "note", desc := "()V" } : Jvm.MethodName) prog_7_method_41_code (2 : Nat) (Option.none : Option Jvm.ClassFile.FieldType)) ∈ GW := gw_t4 36 rfl rfl
theorem w_698 : (Jvm.Cond.methodLink "CardHouseModel" (188 : Nat) ({ cls := "CardHouseModel", name := "goPut", desc := "([III)I" } : Jvm.MethodName)) ∈ GW := gw_t4 37 rfl rfl
theorem w_699 : (Jvm.Cond.instanceMethod ({ cls := "CardHouseModel", name := "goPut", desc := "([III)I" } : Jvm.MethodName)) ∈ GW := gw_t4 39 rfl rfl
theorem w_700 : (Jvm.Cond.code ({ cls := "CardHouseModel", name := "goPut", desc := "([III)I" } : Jvm.MethodName) prog_7_method_43_code (5 : Nat) (Option.some Jvm.ClassFile.FieldType.int)) ∈ GW := gw_t4 40 rfl rfl
theorem w_701 : (Jvm.Cond.methodLink "CardHouseLaw" (51 : Nat) ({ cls := "CardHouseModel", name := "take", desc := "(I)I" } : Jvm.MethodName)) ∈ GW := gw_t4 41 rfl rfl
theorem w_702 : (Jvm.Cond.instanceMethod ({ cls := "CardHouseModel", name := "take", desc := "(I)I" } : Jvm.MethodName)) ∈ GW := gw_t4 42 rfl rfl
theorem w_703 : (Jvm.Cond.selects "CardHouseModel" ({ cls := "CardHouseModel", name := "take", desc := "(I)I" } : Jvm.MethodName) ({ cls := "CardHouseModel", name := "take", desc := "(I)I" } : Jvm.MethodName)) ∈ GW := gw_t4 43 rfl rfl
theorem w_704 : (Jvm.Cond.code ({ cls := "CardHouseModel", name := "take", desc := "(I)I" } : Jvm.MethodName) prog_7_method_45_code (2 : Nat) (Option.some Jvm.ClassFile.FieldType.int)) ∈ GW := gw_t4 44 rfl rfl
theorem w_705 : (Jvm.Cond.methodLink "CardHouseLaw" (55 : Nat) ({ cls := "CardHouseModel", name := "draught", desc := "(II)I" } : Jvm.MethodName)) ∈ GW := gw_t4 45 rfl rfl
theorem w_706 : (Jvm.Cond.instanceMethod ({ cls := "CardHouseModel", name := "draught", desc := "(II)I" } : Jvm.MethodName)) ∈ GW := gw_t4 46 rfl rfl
theorem w_707 : (Jvm.Cond.selects "CardHouseModel" ({ cls := "CardHouseModel", name := "draught", desc := "(II)I" } : Jvm.MethodName) ({ cls := "CardHouseModel", name := "draught", desc := "(II)I" } : Jvm.MethodName)) ∈ GW := gw_t4 47 rfl rfl
theorem w_708 : (Jvm.Cond.code ({ cls := "CardHouseModel", name := "draught", desc := "(II)I" } : Jvm.MethodName) prog_7_method_49_code (3 : Nat) (Option.some Jvm.ClassFile.FieldType.int)) ∈ GW := gw_t4 48 rfl rfl
theorem w_709 : (Jvm.Cond.constantLong "CardHouseModel" (201 : Nat) (9 : Int64)) ∈ GW := gw_t4 49 rfl rfl
theorem w_710 : (Jvm.Cond.methodLink "CardHouseModel" (203 : Nat) ({ cls := "CardHouseModel", name := "goDraught", desc := "([III)I" } : Jvm.MethodName)) ∈ GW := gw_t4 50 rfl rfl
theorem w_711 : (Jvm.Cond.instanceMethod ({ cls := "CardHouseModel", name := "goDraught", desc := "([III)I" } : Jvm.MethodName)) ∈ GW := gw_t4 52 rfl rfl
theorem w_712 : (Jvm.Cond.code ({ cls := "CardHouseModel", name := "goDraught", desc := "([III)I" } : Jvm.MethodName) prog_7_method_48_code (6 : Nat) (Option.some Jvm.ClassFile.FieldType.int)) ∈ GW := gw_t4 53 rfl rfl
theorem w_713 : (Jvm.Cond.methodLink "CardHouseModel" (195 : Nat) ({ cls := "CardHouseModel", name := "isTentOf", desc := "([III)Z" } : Jvm.MethodName)) ∈ GW := gw_t4 54 rfl rfl
theorem w_714 : (Jvm.Cond.instanceMethod ({ cls := "CardHouseModel", name := "isTentOf", desc := "([III)Z" } : Jvm.MethodName)) ∈ GW := gw_t4 56 rfl rfl
theorem w_715 : (Jvm.Cond.code ({ cls := "CardHouseModel", name := "isTentOf", desc := "([III)Z" } : Jvm.MethodName) prog_7_method_46_code (4 : Nat) (Option.some Jvm.ClassFile.FieldType.boolean)) ∈ GW := gw_t4 57 rfl rfl
theorem w_716 : (Jvm.Cond.methodLink "CardHouseModel" (198 : Nat) ({ cls := "CardHouseModel", name := "firm", desc := "([II)I" } : Jvm.MethodName)) ∈ GW := gw_t4 58 rfl rfl
theorem w_717 : (Jvm.Cond.instanceMethod ({ cls := "CardHouseModel", name := "firm", desc := "([II)I" } : Jvm.MethodName)) ∈ GW := gw_t4 60 rfl rfl
theorem w_718 : (Jvm.Cond.code ({ cls := "CardHouseModel", name := "firm", desc := "([II)I" } : Jvm.MethodName) prog_7_method_47_code (3 : Nat) (Option.some Jvm.ClassFile.FieldType.int)) ∈ GW := gw_t4 61 rfl rfl
theorem w_719 : (Jvm.Cond.methodLink "CardHouseModel" (192 : Nat) ({ cls := "CardHouseModel", name := "grip", desc := "(I)I" } : Jvm.MethodName)) ∈ GW := gw_t4 62 rfl rfl
theorem w_720 : (Jvm.Cond.static ({ cls := "CardHouseModel", name := "grip", desc := "(I)I" } : Jvm.MethodName)) ∈ GW := gw_t4 63 rfl rfl
theorem w_721 : (Jvm.Cond.code ({ cls := "CardHouseModel", name := "grip", desc := "(I)I" } : Jvm.MethodName) prog_7_method_15_code (1 : Nat) (Option.some Jvm.ClassFile.FieldType.int)) ∈ GW := gw_t4 64 rfl rfl
theorem w_722 : (Jvm.Cond.methodLink "CardHouseLaw" (59 : Nat) ({ cls := "CardHouseModel", name := "undo", desc := "()I" } : Jvm.MethodName)) ∈ GW := gw_t4 65 rfl rfl
theorem w_723 : (Jvm.Cond.instanceMethod ({ cls := "CardHouseModel", name := "undo", desc := "()I" } : Jvm.MethodName)) ∈ GW := gw_t4 66 rfl rfl
theorem w_724 : (Jvm.Cond.selects "CardHouseModel" ({ cls := "CardHouseModel", name := "undo", desc := "()I" } : Jvm.MethodName) ({ cls := "CardHouseModel", name := "undo", desc := "()I" } : Jvm.MethodName)) ∈ GW := gw_t4 67 rfl rfl
theorem w_725 : (Jvm.Cond.code ({ cls := "CardHouseModel", name := "undo", desc := "()I" } : Jvm.MethodName) prog_7_method_50_code (2 : Nat) (Option.some Jvm.ClassFile.FieldType.int)) ∈ GW := gw_t4 68 rfl rfl
theorem w_726 : (Jvm.Cond.methodLink "CardHouseLaw" (63 : Nat) ({ cls := "CardHouseModel", name := "open", desc := "(I)I" } : Jvm.MethodName)) ∈ GW := gw_t4 69 rfl rfl
theorem w_727 : (Jvm.Cond.instanceMethod ({ cls := "CardHouseModel", name := "open", desc := "(I)I" } : Jvm.MethodName)) ∈ GW := gw_t4 70 rfl rfl
theorem w_728 : (Jvm.Cond.selects "CardHouseModel" ({ cls := "CardHouseModel", name := "open", desc := "(I)I" } : Jvm.MethodName) ({ cls := "CardHouseModel", name := "open", desc := "(I)I" } : Jvm.MethodName)) ∈ GW := gw_t4 71 rfl rfl
theorem w_729 : (Jvm.Cond.code ({ cls := "CardHouseModel", name := "open", desc := "(I)I" } : Jvm.MethodName) prog_7_method_51_code (4 : Nat) (Option.some Jvm.ClassFile.FieldType.int)) ∈ GW := gw_t4 72 rfl rfl
theorem w_730 : (Jvm.Cond.methodLink "CardHouseLaw" (67 : Nat) ({ cls := "CardHouseModel", name := "spread", desc := "(I)I" } : Jvm.MethodName)) ∈ GW := gw_t4 73 rfl rfl
theorem w_731 : (Jvm.Cond.instanceMethod ({ cls := "CardHouseModel", name := "spread", desc := "(I)I" } : Jvm.MethodName)) ∈ GW := gw_t4 74 rfl rfl
theorem w_732 : (Jvm.Cond.selects "CardHouseModel" ({ cls := "CardHouseModel", name := "spread", desc := "(I)I" } : Jvm.MethodName) ({ cls := "CardHouseModel", name := "spread", desc := "(I)I" } : Jvm.MethodName)) ∈ GW := gw_t4 75 rfl rfl
theorem w_733 : (Jvm.Cond.code ({ cls := "CardHouseModel", name := "spread", desc := "(I)I" } : Jvm.MethodName) prog_7_method_52_code (2 : Nat) (Option.some Jvm.ClassFile.FieldType.int)) ∈ GW := gw_t4 76 rfl rfl
theorem w_734 : (Jvm.Cond.methodLink "CardHouseLaw" (71 : Nat) ({ cls := "CardHouseModel", name := "stands", desc := "(I)I" } : Jvm.MethodName)) ∈ GW := gw_t4 77 rfl rfl
theorem w_735 : (Jvm.Cond.instanceMethod ({ cls := "CardHouseModel", name := "stands", desc := "(I)I" } : Jvm.MethodName)) ∈ GW := gw_t4 78 rfl rfl
theorem w_736 : (Jvm.Cond.selects "CardHouseModel" ({ cls := "CardHouseModel", name := "stands", desc := "(I)I" } : Jvm.MethodName) ({ cls := "CardHouseModel", name := "stands", desc := "(I)I" } : Jvm.MethodName)) ∈ GW := gw_t4 79 rfl rfl
theorem w_737 : (Jvm.Cond.code ({ cls := "CardHouseModel", name := "stands", desc := "(I)I" } : Jvm.MethodName) prog_7_method_53_code (5 : Nat) (Option.some Jvm.ClassFile.FieldType.int)) ∈ GW := gw_t4 80 rfl rfl
theorem w_738 : (Jvm.Cond.methodLink "CardHouseLaw" (75 : Nat) ({ cls := "CardHouseModel", name := "wants", desc := "(II)I" } : Jvm.MethodName)) ∈ GW := gw_t4 81 rfl rfl
theorem w_739 : (Jvm.Cond.instanceMethod ({ cls := "CardHouseModel", name := "wants", desc := "(II)I" } : Jvm.MethodName)) ∈ GW := gw_t4 82 rfl rfl
theorem w_740 : (Jvm.Cond.selects "CardHouseModel" ({ cls := "CardHouseModel", name := "wants", desc := "(II)I" } : Jvm.MethodName) ({ cls := "CardHouseModel", name := "wants", desc := "(II)I" } : Jvm.MethodName)) ∈ GW := gw_t4 83 rfl rfl
theorem w_741 : (Jvm.Cond.code ({ cls := "CardHouseModel", name := "wants", desc := "(II)I" } : Jvm.MethodName) prog_7_method_55_code (6 : Nat) (Option.some Jvm.ClassFile.FieldType.int)) ∈ GW := gw_t4 84 rfl rfl
theorem w_742 : (Jvm.Cond.methodLink "CardHouseModel" (206 : Nat) ({ cls := "CardHouseModel", name := "wanted", desc := "([II)I" } : Jvm.MethodName)) ∈ GW := gw_t4 85 rfl rfl
theorem w_743 : (Jvm.Cond.static ({ cls := "CardHouseModel", name := "wanted", desc := "([II)I" } : Jvm.MethodName)) ∈ GW := gw_t4 86 rfl rfl
theorem w_744 : (Jvm.Cond.code ({ cls := "CardHouseModel", name := "wanted", desc := "([II)I" } : Jvm.MethodName) prog_7_method_54_code (4 : Nat) (Option.some Jvm.ClassFile.FieldType.int)) ∈ GW := gw_t4 87 rfl rfl
theorem w_745 : (Jvm.Cond.methodLink "CardHouseLaw" (79 : Nat) ({ cls := "CardHouseModel", name := "fit", desc := "(I)I" } : Jvm.MethodName)) ∈ GW := gw_t4 88 rfl rfl
theorem w_746 : (Jvm.Cond.instanceMethod ({ cls := "CardHouseModel", name := "fit", desc := "(I)I" } : Jvm.MethodName)) ∈ GW := gw_t4 89 rfl rfl
theorem w_747 : (Jvm.Cond.selects "CardHouseModel" ({ cls := "CardHouseModel", name := "fit", desc := "(I)I" } : Jvm.MethodName) ({ cls := "CardHouseModel", name := "fit", desc := "(I)I" } : Jvm.MethodName)) ∈ GW := gw_t4 90 rfl rfl
theorem w_748 : (Jvm.Cond.code ({ cls := "CardHouseModel", name := "fit", desc := "(I)I" } : Jvm.MethodName) prog_7_method_57_code (3 : Nat) (Option.some Jvm.ClassFile.FieldType.int)) ∈ GW := gw_t4 91 rfl rfl
theorem w_749 : (Jvm.Cond.methodLink "CardHouseModel" (209 : Nat) ({ cls := "CardHouseModel", name := "begin", desc := "()V" } : Jvm.MethodName)) ∈ GW := gw_t4 92 rfl rfl
theorem w_750 : (Jvm.Cond.instanceMethod ({ cls := "CardHouseModel", name := "begin", desc := "()V" } : Jvm.MethodName)) ∈ GW := gw_t4 94 rfl rfl
theorem w_751 : (Jvm.Cond.code ({ cls := "CardHouseModel", name := "begin", desc := "()V" } : Jvm.MethodName) prog_7_method_56_code (2 : Nat) (Option.none : Option Jvm.ClassFile.FieldType)) ∈ GW := gw_t4 95 rfl rfl
theorem w_752 : (Jvm.Cond.methodLink "CardHouseLaw" (86 : Nat) ({ cls := "CardHouseModel", name := "judge", desc := "(IJ)I" } : Jvm.MethodName)) ∈ GW := gw_t4 96 rfl rfl
theorem w_753 : (Jvm.Cond.instanceMethod ({ cls := "CardHouseModel", name := "judge", desc := "(IJ)I" } : Jvm.MethodName)) ∈ GW := gw_t4 97 rfl rfl
theorem w_754 : (Jvm.Cond.selects "CardHouseModel" ({ cls := "CardHouseModel", name := "judge", desc := "(IJ)I" } : Jvm.MethodName) ({ cls := "CardHouseModel", name := "judge", desc := "(IJ)I" } : Jvm.MethodName)) ∈ GW := gw_t4 98 rfl rfl
theorem w_755 : (Jvm.Cond.code ({ cls := "CardHouseModel", name := "judge", desc := "(IJ)I" } : Jvm.MethodName) prog_7_method_63_code (5 : Nat) (Option.some Jvm.ClassFile.FieldType.int)) ∈ GW := gw_t4 99 rfl rfl
theorem w_756 : (Jvm.Cond.constantLong "CardHouseModel" (221 : Nat) (10000 : Int64)) ∈ GW := gw_t4 100 rfl rfl
theorem w_757 : (Jvm.Cond.methodLink "CardHouseModel" (223 : Nat) ({ cls := "CardHouseModel", name := "longPower", desc := "(JI)J" } : Jvm.MethodName)) ∈ GW := gw_t4 101 rfl rfl
theorem w_758 : (Jvm.Cond.static ({ cls := "CardHouseModel", name := "longPower", desc := "(JI)J" } : Jvm.MethodName)) ∈ GW := gw_t4 102 rfl rfl
theorem w_759 : (Jvm.Cond.code ({ cls := "CardHouseModel", name := "longPower", desc := "(JI)J" } : Jvm.MethodName) prog_7_method_58_code (6 : Nat) (Option.some Jvm.ClassFile.FieldType.long)) ∈ GW := gw_t4 103 rfl rfl
theorem w_760 : (Jvm.Cond.methodLink "CardHouseModel" (227 : Nat) ({ cls := "CardHouseModel", name := "does", desc := "(I)Z" } : Jvm.MethodName)) ∈ GW := gw_t4 104 rfl rfl
theorem w_761 : (Jvm.Cond.instanceMethod ({ cls := "CardHouseModel", name := "does", desc := "(I)Z" } : Jvm.MethodName)) ∈ GW := gw_t4 106 rfl rfl
theorem w_762 : (Jvm.Cond.code ({ cls := "CardHouseModel", name := "does", desc := "(I)Z" } : Jvm.MethodName) prog_7_method_62_code (5 : Nat) (Option.some Jvm.ClassFile.FieldType.boolean)) ∈ GW := gw_t4 107 rfl rfl
theorem w_763 : (Jvm.Cond.methodLink "CardHouseModel" (212 : Nat) ({ cls := "CardHouseModel", name := "puts", desc := "(II)Z" } : Jvm.MethodName)) ∈ GW := gw_t4 108 rfl rfl
theorem w_764 : (Jvm.Cond.instanceMethod ({ cls := "CardHouseModel", name := "puts", desc := "(II)Z" } : Jvm.MethodName)) ∈ GW := gw_t4 110 rfl rfl
theorem w_765 : (Jvm.Cond.code ({ cls := "CardHouseModel", name := "puts", desc := "(II)Z" } : Jvm.MethodName) prog_7_method_59_code (4 : Nat) (Option.some Jvm.ClassFile.FieldType.boolean)) ∈ GW := gw_t4 111 rfl rfl
theorem w_766 : (Jvm.Cond.methodLink "CardHouseModel" (215 : Nat) ({ cls := "CardHouseModel", name := "takes", desc := "(I)Z" } : Jvm.MethodName)) ∈ GW := gw_t4 112 rfl rfl
theorem w_767 : (Jvm.Cond.instanceMethod ({ cls := "CardHouseModel", name := "takes", desc := "(I)Z" } : Jvm.MethodName)) ∈ GW := gw_t4 114 rfl rfl
theorem w_768 : (Jvm.Cond.code ({ cls := "CardHouseModel", name := "takes", desc := "(I)Z" } : Jvm.MethodName) prog_7_method_60_code (3 : Nat) (Option.some Jvm.ClassFile.FieldType.boolean)) ∈ GW := gw_t4 115 rfl rfl
theorem w_769 : (Jvm.Cond.methodLink "CardHouseModel" (218 : Nat) ({ cls := "CardHouseModel", name := "blows", desc := "(II)Z" } : Jvm.MethodName)) ∈ GW := gw_t4 116 rfl rfl
theorem w_770 : (Jvm.Cond.instanceMethod ({ cls := "CardHouseModel", name := "blows", desc := "(II)Z" } : Jvm.MethodName)) ∈ GW := gw_t4 118 rfl rfl
theorem w_771 : (Jvm.Cond.code ({ cls := "CardHouseModel", name := "blows", desc := "(II)Z" } : Jvm.MethodName) prog_7_method_61_code (4 : Nat) (Option.some Jvm.ClassFile.FieldType.boolean)) ∈ GW := gw_t4 119 rfl rfl
theorem w_772 : (Jvm.Cond.methodLink "CardHouseLaw" (91 : Nat) ({ cls := "CardHouseModel", name := "share", desc := "(IZ)I" } : Jvm.MethodName)) ∈ GW := gw_t4 120 rfl rfl
theorem w_773 : (Jvm.Cond.instanceMethod ({ cls := "CardHouseModel", name := "share", desc := "(IZ)I" } : Jvm.MethodName)) ∈ GW := gw_t4 121 rfl rfl
theorem w_774 : (Jvm.Cond.selects "CardHouseModel" ({ cls := "CardHouseModel", name := "share", desc := "(IZ)I" } : Jvm.MethodName) ({ cls := "CardHouseModel", name := "share", desc := "(IZ)I" } : Jvm.MethodName)) ∈ GW := gw_t4 122 rfl rfl
theorem w_775 : (Jvm.Cond.code ({ cls := "CardHouseModel", name := "share", desc := "(IZ)I" } : Jvm.MethodName) prog_7_method_67_code (6 : Nat) (Option.some Jvm.ClassFile.FieldType.int)) ∈ GW := gw_t4 123 rfl rfl
theorem w_776 : (Jvm.Cond.methodLink "CardHouseModel" (233 : Nat) ({ cls := "CardHouseModel", name := "ways", desc := "(I)I" } : Jvm.MethodName)) ∈ GW := gw_t4 124 rfl rfl
theorem w_777 : (Jvm.Cond.static ({ cls := "CardHouseModel", name := "ways", desc := "(I)I" } : Jvm.MethodName)) ∈ GW := gw_t4 125 rfl rfl
theorem w_778 : (Jvm.Cond.code ({ cls := "CardHouseModel", name := "ways", desc := "(I)I" } : Jvm.MethodName) prog_7_method_64_code (3 : Nat) (Option.some Jvm.ClassFile.FieldType.int)) ∈ GW := gw_t4 126 rfl rfl
theorem w_779 : (Jvm.Cond.methodLink "CardHouseModel" (236 : Nat) ({ cls := "CardHouseModel", name := "fraction", desc := "(IIZ)I" } : Jvm.MethodName)) ∈ GW := gw_t4 127 rfl rfl
theorem w_780 : (Jvm.Cond.static ({ cls := "CardHouseModel", name := "fraction", desc := "(IIZ)I" } : Jvm.MethodName)) ∈ GW := gw_t4 128 rfl rfl
theorem w_781 : (Jvm.Cond.code ({ cls := "CardHouseModel", name := "fraction", desc := "(IIZ)I" } : Jvm.MethodName) prog_7_method_66_code (4 : Nat) (Option.some Jvm.ClassFile.FieldType.int)) ∈ GW := gw_t4 129 rfl rfl
theorem w_782 : (Jvm.Cond.methodLink "CardHouseModel" (230 : Nat) ({ cls := "CardHouseModel", name := "divisor", desc := "(II)I" } : Jvm.MethodName)) ∈ GW := gw_t4 130 rfl rfl
theorem w_783 : (Jvm.Cond.static ({ cls := "CardHouseModel", name := "divisor", desc := "(II)I" } : Jvm.MethodName)) ∈ GW := gw_t4 131 rfl rfl
theorem w_784 : (Jvm.Cond.code ({ cls := "CardHouseModel", name := "divisor", desc := "(II)I" } : Jvm.MethodName) prog_7_method_65_code (5 : Nat) (Option.some Jvm.ClassFile.FieldType.int)) ∈ GW := gw_t4 132 rfl rfl
theorem w_785 : (Jvm.Cond.methodLink "CardHouseLaw" (96 : Nat) ({ cls := "CardHouseModel", name := "hold", desc := "(IIII)I" } : Jvm.MethodName)) ∈ GW := gw_t4 133 rfl rfl
theorem w_786 : (Jvm.Cond.instanceMethod ({ cls := "CardHouseModel", name := "hold", desc := "(IIII)I" } : Jvm.MethodName)) ∈ GW := gw_t4 134 rfl rfl
theorem w_787 : (Jvm.Cond.selects "CardHouseModel" ({ cls := "CardHouseModel", name := "hold", desc := "(IIII)I" } : Jvm.MethodName) ({ cls := "CardHouseModel", name := "hold", desc := "(IIII)I" } : Jvm.MethodName)) ∈ GW := gw_t4 135 rfl rfl
theorem w_788 : (Jvm.Cond.code ({ cls := "CardHouseModel", name := "hold", desc := "(IIII)I" } : Jvm.MethodName) prog_7_method_68_code (5 : Nat) (Option.some Jvm.ClassFile.FieldType.int)) ∈ GW := gw_t4 136 rfl rfl
theorem w_789 : (Jvm.Cond.methodLink "CardHouseLaw" (100 : Nat) ({ cls := "CardHouseModel", name := "unhold", desc := "()I" } : Jvm.MethodName)) ∈ GW := gw_t4 137 rfl rfl
theorem w_790 : (Jvm.Cond.instanceMethod ({ cls := "CardHouseModel", name := "unhold", desc := "()I" } : Jvm.MethodName)) ∈ GW := gw_t4 138 rfl rfl
theorem w_791 : (Jvm.Cond.selects "CardHouseModel" ({ cls := "CardHouseModel", name := "unhold", desc := "()I" } : Jvm.MethodName) ({ cls := "CardHouseModel", name := "unhold", desc := "()I" } : Jvm.MethodName)) ∈ GW := gw_t4 139 rfl rfl
theorem w_792 : (Jvm.Cond.code ({ cls := "CardHouseModel", name := "unhold", desc := "()I" } : Jvm.MethodName) prog_7_method_69_code (2 : Nat) (Option.some Jvm.ClassFile.FieldType.int)) ∈ GW := gw_t4 140 rfl rfl
theorem w_793 : (Jvm.Cond.methodLink "CardHouseLaw" (104 : Nat) ({ cls := "CardHouseModel", name := "tents", desc := "(I)I" } : Jvm.MethodName)) ∈ GW := gw_t4 141 rfl rfl
theorem w_794 : (Jvm.Cond.instanceMethod ({ cls := "CardHouseModel", name := "tents", desc := "(I)I" } : Jvm.MethodName)) ∈ GW := gw_t4 142 rfl rfl
theorem w_795 : (Jvm.Cond.selects "CardHouseModel" ({ cls := "CardHouseModel", name := "tents", desc := "(I)I" } : Jvm.MethodName) ({ cls := "CardHouseModel", name := "tents", desc := "(I)I" } : Jvm.MethodName)) ∈ GW := gw_t4 143 rfl rfl
theorem w_796 : (Jvm.Cond.code ({ cls := "CardHouseModel", name := "tents", desc := "(I)I" } : Jvm.MethodName) prog_7_method_70_code (7 : Nat) (Option.some Jvm.ClassFile.FieldType.int)) ∈ GW := gw_t4 144 rfl rfl
theorem w_797 : (Jvm.Cond.methodLink "CardHouseLaw" (109 : Nat) ({ cls := "CardHouseModel", name := "rests", desc := "(III)I" } : Jvm.MethodName)) ∈ GW := gw_t4 145 rfl rfl
theorem w_798 : (Jvm.Cond.instanceMethod ({ cls := "CardHouseModel", name := "rests", desc := "(III)I" } : Jvm.MethodName)) ∈ GW := gw_t4 146 rfl rfl
theorem w_799 : (Jvm.Cond.selects "CardHouseModel" ({ cls := "CardHouseModel", name := "rests", desc := "(III)I" } : Jvm.MethodName) ({ cls := "CardHouseModel", name := "rests", desc := "(III)I" } : Jvm.MethodName)) ∈ GW := gw_t4 147 rfl rfl
theorem w_800 : (Jvm.Cond.code ({ cls := "CardHouseModel", name := "rests", desc := "(III)I" } : Jvm.MethodName) prog_7_method_71_code (7 : Nat) (Option.some Jvm.ClassFile.FieldType.int)) ∈ GW := gw_t4 148 rfl rfl
theorem w_801 : (Jvm.Cond.methodLink "CardHouseLaw" (114 : Nat) ({ cls := "CardHouseModel", name := "shaken", desc := "(IIZ)I" } : Jvm.MethodName)) ∈ GW := gw_t4 149 rfl rfl
theorem w_802 : (Jvm.Cond.instanceMethod ({ cls := "CardHouseModel", name := "shaken", desc := "(IIZ)I" } : Jvm.MethodName)) ∈ GW := gw_t4 150 rfl rfl
theorem w_803 : (Jvm.Cond.selects "CardHouseModel" ({ cls := "CardHouseModel", name := "shaken", desc := "(IIZ)I" } : Jvm.MethodName) ({ cls := "CardHouseModel", name := "shaken", desc := "(IIZ)I" } : Jvm.MethodName)) ∈ GW := gw_t4 151 rfl rfl
theorem w_804 : (Jvm.Cond.code ({ cls := "CardHouseModel", name := "shaken", desc := "(IIZ)I" } : Jvm.MethodName) prog_7_method_72_code (10 : Nat) (Option.some Jvm.ClassFile.FieldType.int)) ∈ GW := gw_t4 152 rfl rfl
theorem w_805 : (Jvm.Cond.constantLong "CardHouseModel" (252 : Nat) (16 : Int64)) ∈ GW := gw_t4 153 rfl rfl
theorem w_806 : (Jvm.Cond.constantLong "CardHouseModel" (254 : Nat) (10 : Int64)) ∈ GW := gw_t4 154 rfl rfl
theorem w_807 : (Jvm.Cond.methodLink "CardHouseModel" (256 : Nat) ({ cls := "CardHouseModel", name := "power", desc := "(II)I" } : Jvm.MethodName)) ∈ GW := gw_t4 155 rfl rfl
theorem w_808 : (Jvm.Cond.static ({ cls := "CardHouseModel", name := "power", desc := "(II)I" } : Jvm.MethodName)) ∈ GW := gw_t4 156 rfl rfl
theorem w_809 : (Jvm.Cond.code ({ cls := "CardHouseModel", name := "power", desc := "(II)I" } : Jvm.MethodName) prog_7_method_6_code (4 : Nat) (Option.some Jvm.ClassFile.FieldType.int)) ∈ GW := gw_t4 157 rfl rfl
theorem w_810 : (Jvm.Cond.methodLink "CardHouseLaw" (119 : Nat) ({ cls := "CardHouseModel", name := "seed", desc := "(J)J" } : Jvm.MethodName)) ∈ GW := gw_t4 158 rfl rfl
theorem w_811 : (Jvm.Cond.instanceMethod ({ cls := "CardHouseModel", name := "seed", desc := "(J)J" } : Jvm.MethodName)) ∈ GW := gw_t4 159 rfl rfl
theorem w_812 : (Jvm.Cond.selects "CardHouseModel" ({ cls := "CardHouseModel", name := "seed", desc := "(J)J" } : Jvm.MethodName) ({ cls := "CardHouseModel", name := "seed", desc := "(J)J" } : Jvm.MethodName)) ∈ GW := gw_t4 160 rfl rfl
theorem w_813 : (Jvm.Cond.code ({ cls := "CardHouseModel", name := "seed", desc := "(J)J" } : Jvm.MethodName) prog_7_method_73_code (5 : Nat) (Option.some Jvm.ClassFile.FieldType.long)) ∈ GW := gw_t4 161 rfl rfl
theorem w_814 : (Jvm.Cond.methodLink "CardHouseLaw" (123 : Nat) ({ cls := "CardHouseModel", name := "evenings", desc := "(I)I" } : Jvm.MethodName)) ∈ GW := gw_t4 162 rfl rfl
theorem w_815 : (Jvm.Cond.instanceMethod ({ cls := "CardHouseModel", name := "evenings", desc := "(I)I" } : Jvm.MethodName)) ∈ GW := gw_t4 163 rfl rfl
theorem w_816 : (Jvm.Cond.selects "CardHouseModel" ({ cls := "CardHouseModel", name := "evenings", desc := "(I)I" } : Jvm.MethodName) ({ cls := "CardHouseModel", name := "evenings", desc := "(I)I" } : Jvm.MethodName)) ∈ GW := gw_t4 164 rfl rfl
theorem w_817 : (Jvm.Cond.code ({ cls := "CardHouseModel", name := "evenings", desc := "(I)I" } : Jvm.MethodName) prog_7_method_74_code (5 : Nat) (Option.some Jvm.ClassFile.FieldType.int)) ∈ GW := gw_t4 165 rfl rfl
theorem w_818 : (Jvm.Cond.constantLong "CardHouseModel" (263 : Nat) (30 : Int64)) ∈ GW := gw_t4 166 rfl rfl
theorem w_819 : (Jvm.Cond.constantLong "CardHouseModel" (265 : Nat) (6364136223846793005 : Int64)) ∈ GW := gw_t4 167 rfl rfl
theorem w_820 : (Jvm.Cond.constantLong "CardHouseModel" (267 : Nat) (1442695040888963407 : Int64)) ∈ GW := gw_t4 168 rfl rfl
theorem w_821 : (Jvm.Cond.constantLong "CardHouseModel" (269 : Nat) (80 : Int64)) ∈ GW := gw_t4 169 rfl rfl
theorem w_822 : (Jvm.Cond.methodLink "CardHouseLaw" (127 : Nat) ({ cls := "CardHouseModel", name := "keep", desc := "(I)I" } : Jvm.MethodName)) ∈ GW := gw_t4 170 rfl rfl
theorem w_823 : (Jvm.Cond.instanceMethod ({ cls := "CardHouseModel", name := "keep", desc := "(I)I" } : Jvm.MethodName)) ∈ GW := gw_t4 171 rfl rfl
theorem w_824 : (Jvm.Cond.selects "CardHouseModel" ({ cls := "CardHouseModel", name := "keep", desc := "(I)I" } : Jvm.MethodName) ({ cls := "CardHouseModel", name := "keep", desc := "(I)I" } : Jvm.MethodName)) ∈ GW := gw_t4 172 rfl rfl
theorem w_825 : (Jvm.Cond.code ({ cls := "CardHouseModel", name := "keep", desc := "(I)I" } : Jvm.MethodName) prog_7_method_75_code (3 : Nat) (Option.some Jvm.ClassFile.FieldType.int)) ∈ GW := gw_t4 173 rfl rfl
theorem w_826 : (Jvm.Cond.methodLink "CardHouseLaw" (131 : Nat) ({ cls := "CardHouseModel", name := "again", desc := "(I)I" } : Jvm.MethodName)) ∈ GW := gw_t4 174 rfl rfl
theorem w_827 : (Jvm.Cond.instanceMethod ({ cls := "CardHouseModel", name := "again", desc := "(I)I" } : Jvm.MethodName)) ∈ GW := gw_t4 175 rfl rfl
theorem w_828 : (Jvm.Cond.selects "CardHouseModel" ({ cls := "CardHouseModel", name := "again", desc := "(I)I" } : Jvm.MethodName) ({ cls := "CardHouseModel", name := "again", desc := "(I)I" } : Jvm.MethodName)) ∈ GW := gw_t4 176 rfl rfl
theorem w_829 : (Jvm.Cond.code ({ cls := "CardHouseModel", name := "again", desc := "(I)I" } : Jvm.MethodName) prog_7_method_76_code (3 : Nat) (Option.some Jvm.ClassFile.FieldType.int)) ∈ GW := gw_t4 177 rfl rfl
theorem w_830 : (Jvm.Cond.constantLong "CardHouseLaw" (80 : Nat) (4294967295 : Int64)) ∈ GW := gw_t4 178 rfl rfl
theorem w_831 : (Jvm.Cond.arrayClass Jvm.ClassFile.FieldType.long) ∈ GW := gw_t4 179 rfl rfl
theorem w_832 : (Jvm.Cond.selects "CardHouse$Text" ({ cls := "CardHouse$Text", name := "readLetter", desc := "(LCardHouse$Pile;II)Z" } : Jvm.MethodName) ({ cls := "CardHouse$Text", name := "readLetter", desc := "(LCardHouse$Pile;II)Z" } : Jvm.MethodName)) ∈ GW := gw_s 0 rfl rfl
theorem w_833 : (Jvm.Cond.selects "CardHouse$Pile" ({ cls := "CardHouse$Pile", name := "weigh", desc := "()V" } : Jvm.MethodName) ({ cls := "CardHouse$Pile", name := "weigh", desc := "()V" } : Jvm.MethodName)) ∈ GW := gw_s 1 rfl rfl
theorem w_834 : (Jvm.Cond.selects "CardHouse$Pile" ({ cls := "CardHouse$Pile", name := "drop", desc := "(I)I" } : Jvm.MethodName) ({ cls := "CardHouse$Pile", name := "drop", desc := "(I)I" } : Jvm.MethodName)) ∈ GW := gw_s 2 rfl rfl
theorem w_835 : (Jvm.Cond.selects "CardHouse" ({ cls := "CardHouse", name := "cardsInDeck", desc := "()I" } : Jvm.MethodName) ({ cls := "CardHouse", name := "cardsInDeck", desc := "()I" } : Jvm.MethodName)) ∈ GW := gw_s 3 rfl rfl
theorem w_836 : (Jvm.Cond.selects "CardHouse" ({ cls := "CardHouse", name := "recordAct", desc := "()V" } : Jvm.MethodName) ({ cls := "CardHouse", name := "recordAct", desc := "()V" } : Jvm.MethodName)) ∈ GW := gw_s 4 rfl rfl
theorem w_837 : (Jvm.Cond.selects "CardHouse$Pile" ({ cls := "CardHouse$Pile", name := "isTentOfLevel", desc := "(II)Z" } : Jvm.MethodName) ({ cls := "CardHouse$Pile", name := "isTentOfLevel", desc := "(II)Z" } : Jvm.MethodName)) ∈ GW := gw_s 5 rfl rfl
theorem w_838 : (Jvm.Cond.selects "CardHouse" ({ cls := "CardHouse", name := "canBeDone", desc := "(I)Z" } : Jvm.MethodName) ({ cls := "CardHouse", name := "canBeDone", desc := "(I)Z" } : Jvm.MethodName)) ∈ GW := gw_s 6 rfl rfl
theorem w_839 : (Jvm.Cond.selects "CardHouse" ({ cls := "CardHouse", name := "gain", desc := "(II)I" } : Jvm.MethodName) ({ cls := "CardHouse", name := "gain", desc := "(II)I" } : Jvm.MethodName)) ∈ GW := gw_s 7 rfl rfl
theorem w_840 : (Jvm.Cond.selects "CardHouse$Contest" ({ cls := "CardHouse$Contest", name := "isAtRest", desc := "(I)Z" } : Jvm.MethodName) ({ cls := "CardHouse$Contest", name := "isAtRest", desc := "(I)Z" } : Jvm.MethodName)) ∈ GW := gw_s 8 rfl rfl
theorem w_841 : (Jvm.Cond.selects "CardHouse" ({ cls := "CardHouse", name := "passEvening", desc := "(I)V" } : Jvm.MethodName) ({ cls := "CardHouse", name := "passEvening", desc := "(I)V" } : Jvm.MethodName)) ∈ GW := gw_s 9 rfl rfl
theorem w_842 : (Jvm.Cond.selects "CardHouseModel" ({ cls := "CardHouseModel", name := "readHouse", desc := "()I" } : Jvm.MethodName) ({ cls := "CardHouseModel", name := "readHouse", desc := "()I" } : Jvm.MethodName)) ∈ GW := gw_s 10 rfl rfl
theorem w_843 : (Jvm.Cond.selects "CardHouseModel" ({ cls := "CardHouseModel", name := "readHead", desc := "()Z" } : Jvm.MethodName) ({ cls := "CardHouseModel", name := "readHead", desc := "()Z" } : Jvm.MethodName)) ∈ GW := gw_s 11 rfl rfl
theorem w_844 : (Jvm.Cond.selects "CardHouseModel" ({ cls := "CardHouseModel", name := "figure", desc := "(I)I" } : Jvm.MethodName) ({ cls := "CardHouseModel", name := "figure", desc := "(I)I" } : Jvm.MethodName)) ∈ GW := gw_s 12 rfl rfl
theorem w_845 : (Jvm.Cond.selects "CardHouseModel" ({ cls := "CardHouseModel", name := "readPiece", desc := "()Z" } : Jvm.MethodName) ({ cls := "CardHouseModel", name := "readPiece", desc := "()Z" } : Jvm.MethodName)) ∈ GW := gw_s 13 rfl rfl
theorem w_846 : (Jvm.Cond.selects "CardHouseModel" ({ cls := "CardHouseModel", name := "couldAny", desc := "()Z" } : Jvm.MethodName) ({ cls := "CardHouseModel", name := "couldAny", desc := "()Z" } : Jvm.MethodName)) ∈ GW := gw_s 14 rfl rfl
theorem w_847 : (Jvm.Cond.selects "CardHouseModel" ({ cls := "CardHouseModel", name := "couldCome", desc := "(I)Z" } : Jvm.MethodName) ({ cls := "CardHouseModel", name := "couldCome", desc := "(I)Z" } : Jvm.MethodName)) ∈ GW := gw_s 15 rfl rfl
theorem w_848 : (Jvm.Cond.selects "CardHouseModel" ({ cls := "CardHouseModel", name := "enough", desc := "(II)Z" } : Jvm.MethodName) ({ cls := "CardHouseModel", name := "enough", desc := "(II)Z" } : Jvm.MethodName)) ∈ GW := gw_s 16 rfl rfl
theorem w_849 : (Jvm.Cond.selects "CardHouseModel" ({ cls := "CardHouseModel", name := "settle", desc := "([I)I" } : Jvm.MethodName) ({ cls := "CardHouseModel", name := "settle", desc := "([I)I" } : Jvm.MethodName)) ∈ GW := gw_s 17 rfl rfl
theorem w_850 : (Jvm.Cond.selects "CardHouseModel" ({ cls := "CardHouseModel", name := "weak", desc := "([I)I" } : Jvm.MethodName) ({ cls := "CardHouseModel", name := "weak", desc := "([I)I" } : Jvm.MethodName)) ∈ GW := gw_s 18 rfl rfl
theorem w_851 : (Jvm.Cond.selects "CardHouseModel" ({ cls := "CardHouseModel", name := "layLoads", desc := "([I)V" } : Jvm.MethodName) ({ cls := "CardHouseModel", name := "layLoads", desc := "([I)V" } : Jvm.MethodName)) ∈ GW := gw_s 19 rfl rfl
theorem w_852 : (Jvm.Cond.selects "CardHouseModel" ({ cls := "CardHouseModel", name := "deckAll", desc := "()I" } : Jvm.MethodName) ({ cls := "CardHouseModel", name := "deckAll", desc := "()I" } : Jvm.MethodName)) ∈ GW := gw_s 20 rfl rfl
theorem w_853 : (Jvm.Cond.selects "CardHouseModel" ({ cls := "CardHouseModel", name := "left", desc := "([II)I" } : Jvm.MethodName) ({ cls := "CardHouseModel", name := "left", desc := "([II)I" } : Jvm.MethodName)) ∈ GW := gw_s 21 rfl rfl
theorem w_854 : (Jvm.Cond.selects "CardHouseModel" ({ cls := "CardHouseModel", name := "highest", desc := "()I" } : Jvm.MethodName) ({ cls := "CardHouseModel", name := "highest", desc := "()I" } : Jvm.MethodName)) ∈ GW := gw_s 22 rfl rfl
theorem w_855 : (Jvm.Cond.selects "CardHouseModel" ({ cls := "CardHouseModel", name := "canPut", desc := "([III)Z" } : Jvm.MethodName) ({ cls := "CardHouseModel", name := "canPut", desc := "([III)Z" } : Jvm.MethodName)) ∈ GW := gw_s 23 rfl rfl
theorem w_856 : (Jvm.Cond.selects "CardHouseModel" ({ cls := "CardHouseModel", name := "note", desc := "()V" } : Jvm.MethodName) ({ cls := "CardHouseModel", name := "note", desc := "()V" } : Jvm.MethodName)) ∈ GW := gw_s 24 rfl rfl
theorem w_857 : (Jvm.Cond.selects "CardHouseModel" ({ cls := "CardHouseModel", name := "goPut", desc := "([III)I" } : Jvm.MethodName) ({ cls := "CardHouseModel", name := "goPut", desc := "([III)I" } : Jvm.MethodName)) ∈ GW := gw_s 25 rfl rfl
theorem w_858 : (Jvm.Cond.selects "CardHouseModel" ({ cls := "CardHouseModel", name := "goDraught", desc := "([III)I" } : Jvm.MethodName) ({ cls := "CardHouseModel", name := "goDraught", desc := "([III)I" } : Jvm.MethodName)) ∈ GW := gw_s 26 rfl rfl
theorem w_859 : (Jvm.Cond.selects "CardHouseModel" ({ cls := "CardHouseModel", name := "isTentOf", desc := "([III)Z" } : Jvm.MethodName) ({ cls := "CardHouseModel", name := "isTentOf", desc := "([III)Z" } : Jvm.MethodName)) ∈ GW := gw_s 27 rfl rfl
theorem w_860 : (Jvm.Cond.selects "CardHouseModel" ({ cls := "CardHouseModel", name := "firm", desc := "([II)I" } : Jvm.MethodName) ({ cls := "CardHouseModel", name := "firm", desc := "([II)I" } : Jvm.MethodName)) ∈ GW := gw_s 28 rfl rfl
theorem w_861 : (Jvm.Cond.selects "CardHouseModel" ({ cls := "CardHouseModel", name := "begin", desc := "()V" } : Jvm.MethodName) ({ cls := "CardHouseModel", name := "begin", desc := "()V" } : Jvm.MethodName)) ∈ GW := gw_s 29 rfl rfl
theorem w_862 : (Jvm.Cond.selects "CardHouseModel" ({ cls := "CardHouseModel", name := "does", desc := "(I)Z" } : Jvm.MethodName) ({ cls := "CardHouseModel", name := "does", desc := "(I)Z" } : Jvm.MethodName)) ∈ GW := gw_s 30 rfl rfl
theorem w_863 : (Jvm.Cond.selects "CardHouseModel" ({ cls := "CardHouseModel", name := "puts", desc := "(II)Z" } : Jvm.MethodName) ({ cls := "CardHouseModel", name := "puts", desc := "(II)Z" } : Jvm.MethodName)) ∈ GW := gw_s 31 rfl rfl
theorem w_864 : (Jvm.Cond.selects "CardHouseModel" ({ cls := "CardHouseModel", name := "takes", desc := "(I)Z" } : Jvm.MethodName) ({ cls := "CardHouseModel", name := "takes", desc := "(I)Z" } : Jvm.MethodName)) ∈ GW := gw_s 32 rfl rfl
theorem w_865 : (Jvm.Cond.selects "CardHouseModel" ({ cls := "CardHouseModel", name := "blows", desc := "(II)Z" } : Jvm.MethodName) ({ cls := "CardHouseModel", name := "blows", desc := "(II)Z" } : Jvm.MethodName)) ∈ GW := gw_s 33 rfl rfl
end
section
theorem dX0_init_0 : decode cX0_init 0 = .ok (.aload_n 0, 1) := by decide +kernel
theorem dX0_init_1 : decode cX0_init 1 = .ok (.invokespecial 3, 3) := by decide +kernel
theorem dX0_init_4 : decode cX0_init 4 = .ok (.aload_n 0, 1) := by decide +kernel
theorem dX0_init_5 : decode cX0_init 5 = .ok (.bipush 25, 2) := by decide +kernel
theorem dX0_init_7 : decode cX0_init 7 = .ok (.newarray .int, 2) := by decide +kernel
theorem dX0_init_9 : decode cX0_init 9 = .ok (.putfield 9, 3) := by decide +kernel
theorem dX0_init_12 : decode cX0_init 12 = .ok (.aload_n 0, 1) := by decide +kernel
theorem dX0_init_13 : decode cX0_init 13 = .ok (.bipush 25, 2) := by decide +kernel
theorem dX0_init_15 : decode cX0_init 15 = .ok (.newarray .int, 2) := by decide +kernel
theorem dX0_init_17 : decode cX0_init 17 = .ok (.putfield 15, 3) := by decide +kernel
theorem dX0_init_20 : decode cX0_init 20 = .ok (.return_, 1) := by decide +kernel
theorem dX0_note_0 : decode cX0_note 0 = .ok (.iconst 5, 1) := by decide +kernel
theorem dX0_note_1 : decode cX0_note 1 = .ok (.iload_n 1, 1) := by decide +kernel
theorem dX0_note_2 : decode cX0_note 2 = .ok (.imul, 1) := by decide +kernel
theorem dX0_note_3 : decode cX0_note 3 = .ok (.iload_n 2, 1) := by decide +kernel
theorem dX0_note_4 : decode cX0_note 4 = .ok (.iadd, 1) := by decide +kernel
theorem dX0_note_5 : decode cX0_note 5 = .ok (.istore 5, 2) := by decide +kernel
theorem dX0_note_7 : decode cX0_note 7 = .ok (.iload 5, 2) := by decide +kernel
theorem dX0_note_9 : decode cX0_note 9 = .ok (.ifCond .lt 10, 3) := by decide +kernel
theorem dX0_note_12 : decode cX0_note 12 = .ok (.iload 5, 2) := by decide +kernel
theorem dX0_note_14 : decode cX0_note 14 = .ok (.bipush 25, 2) := by decide +kernel
theorem dX0_note_16 : decode cX0_note 16 = .ok (.if_icmp .lt 4, 3) := by decide +kernel
theorem dX0_note_19 : decode cX0_note 19 = .ok (.return_, 1) := by decide +kernel
theorem dX0_note_20 : decode cX0_note 20 = .ok (.aload_n 0, 1) := by decide +kernel
theorem dX0_note_21 : decode cX0_note 21 = .ok (.getfield 9, 3) := by decide +kernel
theorem dX0_note_24 : decode cX0_note 24 = .ok (.iload 5, 2) := by decide +kernel
theorem dX0_note_26 : decode cX0_note 26 = .ok (.iload_n 3, 1) := by decide +kernel
theorem dX0_note_27 : decode cX0_note 27 = .ok (.iastore, 1) := by decide +kernel
theorem dX0_note_28 : decode cX0_note 28 = .ok (.aload_n 0, 1) := by decide +kernel
theorem dX0_note_29 : decode cX0_note 29 = .ok (.getfield 15, 3) := by decide +kernel
theorem dX0_note_32 : decode cX0_note 32 = .ok (.iload 5, 2) := by decide +kernel
theorem dX0_note_34 : decode cX0_note 34 = .ok (.iload 4, 2) := by decide +kernel
theorem dX0_note_36 : decode cX0_note 36 = .ok (.iastore, 1) := by decide +kernel
theorem dX0_note_37 : decode cX0_note 37 = .ok (.return_, 1) := by decide +kernel
theorem dX0_countAtRest_0 : decode cX0_countAtRest 0 = .ok (.iconst 0, 1) := by decide +kernel
theorem dX0_countAtRest_1 : decode cX0_countAtRest 1 = .ok (.istore_n 1, 1) := by decide +kernel
theorem dX0_countAtRest_2 : decode cX0_countAtRest 2 = .ok (.iconst 0, 1) := by decide +kernel
theorem dX0_countAtRest_3 : decode cX0_countAtRest 3 = .ok (.istore_n 2, 1) := by decide +kernel
theorem dX0_countAtRest_4 : decode cX0_countAtRest 4 = .ok (.iload_n 2, 1) := by decide +kernel
theorem dX0_countAtRest_5 : decode cX0_countAtRest 5 = .ok (.bipush 25, 2) := by decide +kernel
theorem dX0_countAtRest_7 : decode cX0_countAtRest 7 = .ok (.if_icmp .ge 20, 3) := by decide +kernel
theorem dX0_countAtRest_10 : decode cX0_countAtRest 10 = .ok (.aload_n 0, 1) := by decide +kernel
theorem dX0_countAtRest_11 : decode cX0_countAtRest 11 = .ok (.iload_n 2, 1) := by decide +kernel
theorem dX0_countAtRest_12 : decode cX0_countAtRest 12 = .ok (.invokevirtual 18, 3) := by decide +kernel
theorem dX0_countAtRest_15 : decode cX0_countAtRest 15 = .ok (.ifCond .eq 6, 3) := by decide +kernel
theorem dX0_countAtRest_18 : decode cX0_countAtRest 18 = .ok (.iinc 1 1, 3) := by decide +kernel
theorem dX0_countAtRest_21 : decode cX0_countAtRest 21 = .ok (.iinc 2 1, 3) := by decide +kernel
theorem dX0_countAtRest_24 : decode cX0_countAtRest 24 = .ok (.goto (-20), 3) := by decide +kernel
theorem dX0_countAtRest_27 : decode cX0_countAtRest 27 = .ok (.iload_n 1, 1) := by decide +kernel
theorem dX0_countAtRest_28 : decode cX0_countAtRest 28 = .ok (.ireturn, 1) := by decide +kernel
theorem dX0_firstAtRest_0 : decode cX0_firstAtRest 0 = .ok (.iconst 0, 1) := by decide +kernel
theorem dX0_firstAtRest_1 : decode cX0_firstAtRest 1 = .ok (.istore_n 1, 1) := by decide +kernel
theorem dX0_firstAtRest_2 : decode cX0_firstAtRest 2 = .ok (.iload_n 1, 1) := by decide +kernel
theorem dX0_firstAtRest_3 : decode cX0_firstAtRest 3 = .ok (.bipush 25, 2) := by decide +kernel
theorem dX0_firstAtRest_5 : decode cX0_firstAtRest 5 = .ok (.if_icmp .ge 28, 3) := by decide +kernel
theorem dX0_firstAtRest_8 : decode cX0_firstAtRest 8 = .ok (.aload_n 0, 1) := by decide +kernel
theorem dX0_firstAtRest_9 : decode cX0_firstAtRest 9 = .ok (.iload_n 1, 1) := by decide +kernel
theorem dX0_firstAtRest_10 : decode cX0_firstAtRest 10 = .ok (.invokevirtual 18, 3) := by decide +kernel
theorem dX0_firstAtRest_13 : decode cX0_firstAtRest 13 = .ok (.ifCond .eq 14, 3) := by decide +kernel
theorem dX0_firstAtRest_16 : decode cX0_firstAtRest 16 = .ok (.bipush 10, 2) := by decide +kernel
theorem dX0_firstAtRest_18 : decode cX0_firstAtRest 18 = .ok (.iload_n 1, 1) := by decide +kernel
theorem dX0_firstAtRest_19 : decode cX0_firstAtRest 19 = .ok (.iconst 5, 1) := by decide +kernel
theorem dX0_firstAtRest_20 : decode cX0_firstAtRest 20 = .ok (.idiv, 1) := by decide +kernel
theorem dX0_firstAtRest_21 : decode cX0_firstAtRest 21 = .ok (.imul, 1) := by decide +kernel
theorem dX0_firstAtRest_22 : decode cX0_firstAtRest 22 = .ok (.iload_n 1, 1) := by decide +kernel
theorem dX0_firstAtRest_23 : decode cX0_firstAtRest 23 = .ok (.iconst 5, 1) := by decide +kernel
theorem dX0_firstAtRest_24 : decode cX0_firstAtRest 24 = .ok (.irem, 1) := by decide +kernel
theorem dX0_firstAtRest_25 : decode cX0_firstAtRest 25 = .ok (.iadd, 1) := by decide +kernel
theorem dX0_firstAtRest_26 : decode cX0_firstAtRest 26 = .ok (.ireturn, 1) := by decide +kernel
theorem dX0_firstAtRest_27 : decode cX0_firstAtRest 27 = .ok (.iinc 1 1, 3) := by decide +kernel
theorem dX0_firstAtRest_30 : decode cX0_firstAtRest 30 = .ok (.goto (-28), 3) := by decide +kernel
theorem dX0_firstAtRest_33 : decode cX0_firstAtRest 33 = .ok (.bipush (-9), 2) := by decide +kernel
theorem dX0_firstAtRest_35 : decode cX0_firstAtRest 35 = .ok (.ireturn, 1) := by decide +kernel
theorem dX0_isAtRest_0 : decode cX0_isAtRest 0 = .ok (.iload_n 1, 1) := by decide +kernel
theorem dX0_isAtRest_1 : decode cX0_isAtRest 1 = .ok (.iconst 5, 1) := by decide +kernel
theorem dX0_isAtRest_2 : decode cX0_isAtRest 2 = .ok (.idiv, 1) := by decide +kernel
theorem dX0_isAtRest_3 : decode cX0_isAtRest 3 = .ok (.istore_n 2, 1) := by decide +kernel
theorem dX0_isAtRest_4 : decode cX0_isAtRest 4 = .ok (.iload_n 1, 1) := by decide +kernel
theorem dX0_isAtRest_5 : decode cX0_isAtRest 5 = .ok (.iconst 5, 1) := by decide +kernel
theorem dX0_isAtRest_6 : decode cX0_isAtRest 6 = .ok (.irem, 1) := by decide +kernel
theorem dX0_isAtRest_7 : decode cX0_isAtRest 7 = .ok (.istore_n 3, 1) := by decide +kernel
theorem dX0_isAtRest_8 : decode cX0_isAtRest 8 = .ok (.iconst 0, 1) := by decide +kernel
theorem dX0_isAtRest_9 : decode cX0_isAtRest 9 = .ok (.istore 4, 2) := by decide +kernel
theorem dX0_isAtRest_11 : decode cX0_isAtRest 11 = .ok (.iload 4, 2) := by decide +kernel
theorem dX0_isAtRest_13 : decode cX0_isAtRest 13 = .ok (.iconst 5, 1) := by decide +kernel
theorem dX0_isAtRest_14 : decode cX0_isAtRest 14 = .ok (.if_icmp .ge 53, 3) := by decide +kernel
theorem dX0_isAtRest_17 : decode cX0_isAtRest 17 = .ok (.aload_n 0, 1) := by decide +kernel
theorem dX0_isAtRest_18 : decode cX0_isAtRest 18 = .ok (.getfield 9, 3) := by decide +kernel
theorem dX0_isAtRest_21 : decode cX0_isAtRest 21 = .ok (.iconst 5, 1) := by decide +kernel
theorem dX0_isAtRest_22 : decode cX0_isAtRest 22 = .ok (.iload 4, 2) := by decide +kernel
theorem dX0_isAtRest_24 : decode cX0_isAtRest 24 = .ok (.imul, 1) := by decide +kernel
theorem dX0_isAtRest_25 : decode cX0_isAtRest 25 = .ok (.iload_n 3, 1) := by decide +kernel
theorem dX0_isAtRest_26 : decode cX0_isAtRest 26 = .ok (.iadd, 1) := by decide +kernel
theorem dX0_isAtRest_27 : decode cX0_isAtRest 27 = .ok (.iaload, 1) := by decide +kernel
theorem dX0_isAtRest_28 : decode cX0_isAtRest 28 = .ok (.aload_n 0, 1) := by decide +kernel
theorem dX0_isAtRest_29 : decode cX0_isAtRest 29 = .ok (.getfield 9, 3) := by decide +kernel
theorem dX0_isAtRest_32 : decode cX0_isAtRest 32 = .ok (.iload_n 1, 1) := by decide +kernel
theorem dX0_isAtRest_33 : decode cX0_isAtRest 33 = .ok (.iaload, 1) := by decide +kernel
theorem dX0_isAtRest_34 : decode cX0_isAtRest 34 = .ok (.if_icmp .le 5, 3) := by decide +kernel
theorem dX0_isAtRest_37 : decode cX0_isAtRest 37 = .ok (.iconst 0, 1) := by decide +kernel
theorem dX0_isAtRest_38 : decode cX0_isAtRest 38 = .ok (.ireturn, 1) := by decide +kernel
theorem dX0_isAtRest_39 : decode cX0_isAtRest 39 = .ok (.aload_n 0, 1) := by decide +kernel
theorem dX0_isAtRest_40 : decode cX0_isAtRest 40 = .ok (.getfield 15, 3) := by decide +kernel
theorem dX0_isAtRest_43 : decode cX0_isAtRest 43 = .ok (.iconst 5, 1) := by decide +kernel
theorem dX0_isAtRest_44 : decode cX0_isAtRest 44 = .ok (.iload_n 2, 1) := by decide +kernel
theorem dX0_isAtRest_45 : decode cX0_isAtRest 45 = .ok (.imul, 1) := by decide +kernel
theorem dX0_isAtRest_46 : decode cX0_isAtRest 46 = .ok (.iload 4, 2) := by decide +kernel
theorem dX0_isAtRest_48 : decode cX0_isAtRest 48 = .ok (.iadd, 1) := by decide +kernel
theorem dX0_isAtRest_49 : decode cX0_isAtRest 49 = .ok (.iaload, 1) := by decide +kernel
theorem dX0_isAtRest_50 : decode cX0_isAtRest 50 = .ok (.aload_n 0, 1) := by decide +kernel
theorem dX0_isAtRest_51 : decode cX0_isAtRest 51 = .ok (.getfield 15, 3) := by decide +kernel
theorem dX0_isAtRest_54 : decode cX0_isAtRest 54 = .ok (.iload_n 1, 1) := by decide +kernel
theorem dX0_isAtRest_55 : decode cX0_isAtRest 55 = .ok (.iaload, 1) := by decide +kernel
theorem dX0_isAtRest_56 : decode cX0_isAtRest 56 = .ok (.if_icmp .le 5, 3) := by decide +kernel
theorem dX0_isAtRest_59 : decode cX0_isAtRest 59 = .ok (.iconst 0, 1) := by decide +kernel
theorem dX0_isAtRest_60 : decode cX0_isAtRest 60 = .ok (.ireturn, 1) := by decide +kernel
theorem dX0_isAtRest_61 : decode cX0_isAtRest 61 = .ok (.iinc 4 1, 3) := by decide +kernel
theorem dX0_isAtRest_64 : decode cX0_isAtRest 64 = .ok (.goto (-53), 3) := by decide +kernel
theorem dX0_isAtRest_67 : decode cX0_isAtRest 67 = .ok (.iconst 1, 1) := by decide +kernel
theorem dX0_isAtRest_68 : decode cX0_isAtRest 68 = .ok (.ireturn, 1) := by decide +kernel
theorem dX1_init_0 : decode cX1_init 0 = .ok (.aload_n 0, 1) := by decide +kernel
theorem dX1_init_1 : decode cX1_init 1 = .ok (.invokespecial 3, 3) := by decide +kernel
theorem dX1_init_4 : decode cX1_init 4 = .ok (.aload_n 0, 1) := by decide +kernel
theorem dX1_init_5 : decode cX1_init 5 = .ok (.iconst 4, 1) := by decide +kernel
theorem dX1_init_6 : decode cX1_init 6 = .ok (.newarray .int, 2) := by decide +kernel
theorem dX1_init_8 : decode cX1_init 8 = .ok (.putfield 9, 3) := by decide +kernel
theorem dX1_init_11 : decode cX1_init 11 = .ok (.aload_n 0, 1) := by decide +kernel
theorem dX1_init_12 : decode cX1_init 12 = .ok (.bipush 16, 2) := by decide +kernel
theorem dX1_init_14 : decode cX1_init 14 = .ok (.newarray .int, 2) := by decide +kernel
theorem dX1_init_16 : decode cX1_init 16 = .ok (.putfield 15, 3) := by decide +kernel
theorem dX1_init_19 : decode cX1_init 19 = .ok (.return_, 1) := by decide +kernel
theorem dX1_clear_0 : decode cX1_clear 0 = .ok (.aload_n 0, 1) := by decide +kernel
theorem dX1_clear_1 : decode cX1_clear 1 = .ok (.iconst 0, 1) := by decide +kernel
theorem dX1_clear_2 : decode cX1_clear 2 = .ok (.putfield 18, 3) := by decide +kernel
theorem dX1_clear_5 : decode cX1_clear 5 = .ok (.aload_n 0, 1) := by decide +kernel
theorem dX1_clear_6 : decode cX1_clear 6 = .ok (.iconst 0, 1) := by decide +kernel
theorem dX1_clear_7 : decode cX1_clear 7 = .ok (.putfield 22, 3) := by decide +kernel
theorem dX1_clear_10 : decode cX1_clear 10 = .ok (.aload_n 0, 1) := by decide +kernel
theorem dX1_clear_11 : decode cX1_clear 11 = .ok (.iconst 0, 1) := by decide +kernel
theorem dX1_clear_12 : decode cX1_clear 12 = .ok (.putfield 25, 3) := by decide +kernel
theorem dX1_clear_15 : decode cX1_clear 15 = .ok (.iconst 0, 1) := by decide +kernel
theorem dX1_clear_16 : decode cX1_clear 16 = .ok (.istore_n 1, 1) := by decide +kernel
theorem dX1_clear_17 : decode cX1_clear 17 = .ok (.iload_n 1, 1) := by decide +kernel
theorem dX1_clear_18 : decode cX1_clear 18 = .ok (.iconst 4, 1) := by decide +kernel
theorem dX1_clear_19 : decode cX1_clear 19 = .ok (.if_icmp .ge 16, 3) := by decide +kernel
theorem dX1_clear_22 : decode cX1_clear 22 = .ok (.aload_n 0, 1) := by decide +kernel
theorem dX1_clear_23 : decode cX1_clear 23 = .ok (.getfield 9, 3) := by decide +kernel
theorem dX1_clear_26 : decode cX1_clear 26 = .ok (.iload_n 1, 1) := by decide +kernel
theorem dX1_clear_27 : decode cX1_clear 27 = .ok (.iconst 0, 1) := by decide +kernel
theorem dX1_clear_28 : decode cX1_clear 28 = .ok (.iastore, 1) := by decide +kernel
theorem dX1_clear_29 : decode cX1_clear 29 = .ok (.iinc 1 1, 3) := by decide +kernel
theorem dX1_clear_32 : decode cX1_clear 32 = .ok (.goto (-15), 3) := by decide +kernel
theorem dX1_clear_35 : decode cX1_clear 35 = .ok (.return_, 1) := by decide +kernel
theorem dX1_copyFrom_0 : decode cX1_copyFrom 0 = .ok (.aload_n 0, 1) := by decide +kernel
theorem dX1_copyFrom_1 : decode cX1_copyFrom 1 = .ok (.aload_n 1, 1) := by decide +kernel
theorem dX1_copyFrom_2 : decode cX1_copyFrom 2 = .ok (.getfield 18, 3) := by decide +kernel
theorem dX1_copyFrom_5 : decode cX1_copyFrom 5 = .ok (.putfield 18, 3) := by decide +kernel
theorem dX1_copyFrom_8 : decode cX1_copyFrom 8 = .ok (.aload_n 0, 1) := by decide +kernel
theorem dX1_copyFrom_9 : decode cX1_copyFrom 9 = .ok (.aload_n 1, 1) := by decide +kernel
theorem dX1_copyFrom_10 : decode cX1_copyFrom 10 = .ok (.getfield 22, 3) := by decide +kernel
theorem dX1_copyFrom_13 : decode cX1_copyFrom 13 = .ok (.putfield 22, 3) := by decide +kernel
theorem dX1_copyFrom_16 : decode cX1_copyFrom 16 = .ok (.aload_n 0, 1) := by decide +kernel
theorem dX1_copyFrom_17 : decode cX1_copyFrom 17 = .ok (.aload_n 1, 1) := by decide +kernel
theorem dX1_copyFrom_18 : decode cX1_copyFrom 18 = .ok (.getfield 25, 3) := by decide +kernel
theorem dX1_copyFrom_21 : decode cX1_copyFrom 21 = .ok (.putfield 25, 3) := by decide +kernel
theorem dX1_copyFrom_24 : decode cX1_copyFrom 24 = .ok (.iconst 0, 1) := by decide +kernel
theorem dX1_copyFrom_25 : decode cX1_copyFrom 25 = .ok (.istore_n 2, 1) := by decide +kernel
theorem dX1_copyFrom_26 : decode cX1_copyFrom 26 = .ok (.iload_n 2, 1) := by decide +kernel
theorem dX1_copyFrom_27 : decode cX1_copyFrom 27 = .ok (.iconst 4, 1) := by decide +kernel
theorem dX1_copyFrom_28 : decode cX1_copyFrom 28 = .ok (.if_icmp .ge 21, 3) := by decide +kernel
theorem dX1_copyFrom_31 : decode cX1_copyFrom 31 = .ok (.aload_n 0, 1) := by decide +kernel
theorem dX1_copyFrom_32 : decode cX1_copyFrom 32 = .ok (.getfield 9, 3) := by decide +kernel
theorem dX1_copyFrom_35 : decode cX1_copyFrom 35 = .ok (.iload_n 2, 1) := by decide +kernel
theorem dX1_copyFrom_36 : decode cX1_copyFrom 36 = .ok (.aload_n 1, 1) := by decide +kernel
theorem dX1_copyFrom_37 : decode cX1_copyFrom 37 = .ok (.getfield 9, 3) := by decide +kernel
theorem dX1_copyFrom_40 : decode cX1_copyFrom 40 = .ok (.iload_n 2, 1) := by decide +kernel
theorem dX1_copyFrom_41 : decode cX1_copyFrom 41 = .ok (.iaload, 1) := by decide +kernel
theorem dX1_copyFrom_42 : decode cX1_copyFrom 42 = .ok (.iastore, 1) := by decide +kernel
theorem dX1_copyFrom_43 : decode cX1_copyFrom 43 = .ok (.iinc 2 1, 3) := by decide +kernel
theorem dX1_copyFrom_46 : decode cX1_copyFrom 46 = .ok (.goto (-20), 3) := by decide +kernel
theorem dX1_copyFrom_49 : decode cX1_copyFrom 49 = .ok (.return_, 1) := by decide +kernel
theorem dX1_size_0 : decode cX1_size 0 = .ok (.aload_n 0, 1) := by decide +kernel
theorem dX1_size_1 : decode cX1_size 1 = .ok (.getfield 18, 3) := by decide +kernel
theorem dX1_size_4 : decode cX1_size 4 = .ok (.invokestatic 28, 3) := by decide +kernel
theorem dX1_size_7 : decode cX1_size 7 = .ok (.ireturn, 1) := by decide +kernel
theorem dX1_has_0 : decode cX1_has 0 = .ok (.aload_n 0, 1) := by decide +kernel
theorem dX1_has_1 : decode cX1_has 1 = .ok (.getfield 18, 3) := by decide +kernel
theorem dX1_has_4 : decode cX1_has 4 = .ok (.iload_n 1, 1) := by decide +kernel
theorem dX1_has_5 : decode cX1_has 5 = .ok (.ishr, 1) := by decide +kernel
theorem dX1_has_6 : decode cX1_has 6 = .ok (.iconst 1, 1) := by decide +kernel
theorem dX1_has_7 : decode cX1_has 7 = .ok (.iand, 1) := by decide +kernel
theorem dX1_has_8 : decode cX1_has 8 = .ok (.ifCond .eq 7, 3) := by decide +kernel
theorem dX1_has_11 : decode cX1_has 11 = .ok (.iconst 1, 1) := by decide +kernel
theorem dX1_has_12 : decode cX1_has 12 = .ok (.goto 4, 3) := by decide +kernel
theorem dX1_has_15 : decode cX1_has 15 = .ok (.iconst 0, 1) := by decide +kernel
theorem dX1_has_16 : decode cX1_has 16 = .ok (.ireturn, 1) := by decide +kernel
theorem dX1_kindOf_0 : decode cX1_kindOf 0 = .ok (.aload_n 0, 1) := by decide +kernel
theorem dX1_kindOf_1 : decode cX1_kindOf 1 = .ok (.getfield 22, 3) := by decide +kernel
theorem dX1_kindOf_4 : decode cX1_kindOf 4 = .ok (.iconst 2, 1) := by decide +kernel
theorem dX1_kindOf_5 : decode cX1_kindOf 5 = .ok (.iload_n 1, 1) := by decide +kernel
theorem dX1_kindOf_6 : decode cX1_kindOf 6 = .ok (.imul, 1) := by decide +kernel
theorem dX1_kindOf_7 : decode cX1_kindOf 7 = .ok (.ishr, 1) := by decide +kernel
theorem dX1_kindOf_8 : decode cX1_kindOf 8 = .ok (.iconst 3, 1) := by decide +kernel
theorem dX1_kindOf_9 : decode cX1_kindOf 9 = .ok (.iand, 1) := by decide +kernel
theorem dX1_kindOf_10 : decode cX1_kindOf 10 = .ok (.ireturn, 1) := by decide +kernel
theorem dX1_weightOf_0 : decode cX1_weightOf 0 = .ok (.iload_n 1, 1) := by decide +kernel
theorem dX1_weightOf_1 : decode cX1_weightOf 1 = .ok (.invokestatic 34, 3) := by decide +kernel
theorem dX1_weightOf_4 : decode cX1_weightOf 4 = .ok (.aload_n 0, 1) := by decide +kernel
theorem dX1_weightOf_5 : decode cX1_weightOf 5 = .ok (.iload_n 1, 1) := by decide +kernel
theorem dX1_weightOf_6 : decode cX1_weightOf 6 = .ok (.invokevirtual 37, 3) := by decide +kernel
theorem dX1_weightOf_9 : decode cX1_weightOf 9 = .ok (.invokestatic 40, 3) := by decide +kernel
theorem dX1_weightOf_12 : decode cX1_weightOf 12 = .ok (.imul, 1) := by decide +kernel
theorem dX1_weightOf_13 : decode cX1_weightOf 13 = .ok (.ireturn, 1) := by decide +kernel
theorem dX1_highestLevel_0 : decode cX1_highestLevel 0 = .ok (.bipush (-9), 2) := by decide +kernel
theorem dX1_highestLevel_2 : decode cX1_highestLevel 2 = .ok (.istore_n 1, 1) := by decide +kernel
theorem dX1_highestLevel_3 : decode cX1_highestLevel 3 = .ok (.iconst 0, 1) := by decide +kernel
theorem dX1_highestLevel_4 : decode cX1_highestLevel 4 = .ok (.istore_n 2, 1) := by decide +kernel
theorem dX1_highestLevel_5 : decode cX1_highestLevel 5 = .ok (.iload_n 2, 1) := by decide +kernel
theorem dX1_highestLevel_6 : decode cX1_highestLevel 6 = .ok (.bipush 16, 2) := by decide +kernel
theorem dX1_highestLevel_8 : decode cX1_highestLevel 8 = .ok (.if_icmp .ge 23, 3) := by decide +kernel
theorem dX1_highestLevel_11 : decode cX1_highestLevel 11 = .ok (.aload_n 0, 1) := by decide +kernel
theorem dX1_highestLevel_12 : decode cX1_highestLevel 12 = .ok (.iload_n 2, 1) := by decide +kernel
theorem dX1_highestLevel_13 : decode cX1_highestLevel 13 = .ok (.invokevirtual 43, 3) := by decide +kernel
theorem dX1_highestLevel_16 : decode cX1_highestLevel 16 = .ok (.ifCond .eq 9, 3) := by decide +kernel
theorem dX1_highestLevel_19 : decode cX1_highestLevel 19 = .ok (.getstatic 47, 3) := by decide +kernel
theorem dX1_highestLevel_22 : decode cX1_highestLevel 22 = .ok (.iload_n 2, 1) := by decide +kernel
theorem dX1_highestLevel_23 : decode cX1_highestLevel 23 = .ok (.iaload, 1) := by decide +kernel
theorem dX1_highestLevel_24 : decode cX1_highestLevel 24 = .ok (.istore_n 1, 1) := by decide +kernel
theorem dX1_highestLevel_25 : decode cX1_highestLevel 25 = .ok (.iinc 2 1, 3) := by decide +kernel
theorem dX1_highestLevel_28 : decode cX1_highestLevel 28 = .ok (.goto (-23), 3) := by decide +kernel
theorem dX1_highestLevel_31 : decode cX1_highestLevel 31 = .ok (.iload_n 1, 1) := by decide +kernel
theorem dX1_highestLevel_32 : decode cX1_highestLevel 32 = .ok (.ireturn, 1) := by decide +kernel
theorem dX1_cardsLeft_0 : decode cX1_cardsLeft 0 = .ok (.iload_n 1, 1) := by decide +kernel
theorem dX1_cardsLeft_1 : decode cX1_cardsLeft 1 = .ok (.invokestatic 50, 3) := by decide +kernel
theorem dX1_cardsLeft_4 : decode cX1_cardsLeft 4 = .ok (.ifCond .eq 12, 3) := by decide +kernel
theorem dX1_cardsLeft_7 : decode cX1_cardsLeft 7 = .ok (.aload_n 0, 1) := by decide +kernel
theorem dX1_cardsLeft_8 : decode cX1_cardsLeft 8 = .ok (.getfield 9, 3) := by decide +kernel
theorem dX1_cardsLeft_11 : decode cX1_cardsLeft 11 = .ok (.iload_n 1, 1) := by decide +kernel
theorem dX1_cardsLeft_12 : decode cX1_cardsLeft 12 = .ok (.iaload, 1) := by decide +kernel
theorem dX1_cardsLeft_13 : decode cX1_cardsLeft 13 = .ok (.goto 4, 3) := by decide +kernel
theorem dX1_cardsLeft_16 : decode cX1_cardsLeft 16 = .ok (.iconst 0, 1) := by decide +kernel
theorem dX1_cardsLeft_17 : decode cX1_cardsLeft 17 = .ok (.istore_n 2, 1) := by decide +kernel
theorem dX1_cardsLeft_18 : decode cX1_cardsLeft 18 = .ok (.iconst 0, 1) := by decide +kernel
theorem dX1_cardsLeft_19 : decode cX1_cardsLeft 19 = .ok (.istore_n 3, 1) := by decide +kernel
theorem dX1_cardsLeft_20 : decode cX1_cardsLeft 20 = .ok (.iload_n 3, 1) := by decide +kernel
theorem dX1_cardsLeft_21 : decode cX1_cardsLeft 21 = .ok (.bipush 16, 2) := by decide +kernel
theorem dX1_cardsLeft_23 : decode cX1_cardsLeft 23 = .ok (.if_icmp .ge 33, 3) := by decide +kernel
theorem dX1_cardsLeft_26 : decode cX1_cardsLeft 26 = .ok (.aload_n 0, 1) := by decide +kernel
theorem dX1_cardsLeft_27 : decode cX1_cardsLeft 27 = .ok (.iload_n 3, 1) := by decide +kernel
theorem dX1_cardsLeft_28 : decode cX1_cardsLeft 28 = .ok (.invokevirtual 43, 3) := by decide +kernel
theorem dX1_cardsLeft_31 : decode cX1_cardsLeft 31 = .ok (.ifCond .eq 19, 3) := by decide +kernel
theorem dX1_cardsLeft_34 : decode cX1_cardsLeft 34 = .ok (.aload_n 0, 1) := by decide +kernel
theorem dX1_cardsLeft_35 : decode cX1_cardsLeft 35 = .ok (.iload_n 3, 1) := by decide +kernel
theorem dX1_cardsLeft_36 : decode cX1_cardsLeft 36 = .ok (.invokevirtual 37, 3) := by decide +kernel
theorem dX1_cardsLeft_39 : decode cX1_cardsLeft 39 = .ok (.iload_n 1, 1) := by decide +kernel
theorem dX1_cardsLeft_40 : decode cX1_cardsLeft 40 = .ok (.if_icmp .ne 10, 3) := by decide +kernel
theorem dX1_cardsLeft_43 : decode cX1_cardsLeft 43 = .ok (.iload_n 2, 1) := by decide +kernel
theorem dX1_cardsLeft_44 : decode cX1_cardsLeft 44 = .ok (.iload_n 3, 1) := by decide +kernel
theorem dX1_cardsLeft_45 : decode cX1_cardsLeft 45 = .ok (.invokestatic 34, 3) := by decide +kernel
theorem dX1_cardsLeft_48 : decode cX1_cardsLeft 48 = .ok (.isub, 1) := by decide +kernel
theorem dX1_cardsLeft_49 : decode cX1_cardsLeft 49 = .ok (.istore_n 2, 1) := by decide +kernel
theorem dX1_cardsLeft_50 : decode cX1_cardsLeft 50 = .ok (.iinc 3 1, 3) := by decide +kernel
theorem dX1_cardsLeft_53 : decode cX1_cardsLeft 53 = .ok (.goto (-33), 3) := by decide +kernel
theorem dX1_cardsLeft_56 : decode cX1_cardsLeft 56 = .ok (.iload_n 2, 1) := by decide +kernel
theorem dX1_cardsLeft_57 : decode cX1_cardsLeft 57 = .ok (.ireturn, 1) := by decide +kernel
theorem dX1_mostCardsLeft_0 : decode cX1_mostCardsLeft 0 = .ok (.iconst 0, 1) := by decide +kernel
theorem dX1_mostCardsLeft_1 : decode cX1_mostCardsLeft 1 = .ok (.istore_n 1, 1) := by decide +kernel
theorem dX1_mostCardsLeft_2 : decode cX1_mostCardsLeft 2 = .ok (.iconst 0, 1) := by decide +kernel
theorem dX1_mostCardsLeft_3 : decode cX1_mostCardsLeft 3 = .ok (.istore_n 2, 1) := by decide +kernel
theorem dX1_mostCardsLeft_4 : decode cX1_mostCardsLeft 4 = .ok (.iload_n 2, 1) := by decide +kernel
theorem dX1_mostCardsLeft_5 : decode cX1_mostCardsLeft 5 = .ok (.iconst 4, 1) := by decide +kernel
theorem dX1_mostCardsLeft_6 : decode cX1_mostCardsLeft 6 = .ok (.if_icmp .ge 19, 3) := by decide +kernel
theorem dX1_mostCardsLeft_9 : decode cX1_mostCardsLeft 9 = .ok (.iload_n 1, 1) := by decide +kernel
theorem dX1_mostCardsLeft_10 : decode cX1_mostCardsLeft 10 = .ok (.aload_n 0, 1) := by decide +kernel
theorem dX1_mostCardsLeft_11 : decode cX1_mostCardsLeft 11 = .ok (.iload_n 2, 1) := by decide +kernel
theorem dX1_mostCardsLeft_12 : decode cX1_mostCardsLeft 12 = .ok (.invokevirtual 53, 3) := by decide +kernel
theorem dX1_mostCardsLeft_15 : decode cX1_mostCardsLeft 15 = .ok (.invokestatic 56, 3) := by decide +kernel
theorem dX1_mostCardsLeft_18 : decode cX1_mostCardsLeft 18 = .ok (.istore_n 1, 1) := by decide +kernel
theorem dX1_mostCardsLeft_19 : decode cX1_mostCardsLeft 19 = .ok (.iinc 2 1, 3) := by decide +kernel
theorem dX1_mostCardsLeft_22 : decode cX1_mostCardsLeft 22 = .ok (.goto (-18), 3) := by decide +kernel
theorem dX1_mostCardsLeft_25 : decode cX1_mostCardsLeft 25 = .ok (.iload_n 1, 1) := by decide +kernel
theorem dX1_mostCardsLeft_26 : decode cX1_mostCardsLeft 26 = .ok (.ireturn, 1) := by decide +kernel
theorem dX1_hasRoomFor_0 : decode cX1_hasRoomFor 0 = .ok (.iload_n 1, 1) := by decide +kernel
theorem dX1_hasRoomFor_1 : decode cX1_hasRoomFor 1 = .ok (.invokestatic 62, 3) := by decide +kernel
theorem dX1_hasRoomFor_4 : decode cX1_hasRoomFor 4 = .ok (.ifCond .eq 30, 3) := by decide +kernel
theorem dX1_hasRoomFor_7 : decode cX1_hasRoomFor 7 = .ok (.aload_n 0, 1) := by decide +kernel
theorem dX1_hasRoomFor_8 : decode cX1_hasRoomFor 8 = .ok (.iload_n 1, 1) := by decide +kernel
theorem dX1_hasRoomFor_9 : decode cX1_hasRoomFor 9 = .ok (.invokevirtual 43, 3) := by decide +kernel
theorem dX1_hasRoomFor_12 : decode cX1_hasRoomFor 12 = .ok (.ifCond .ne 22, 3) := by decide +kernel
theorem dX1_hasRoomFor_15 : decode cX1_hasRoomFor 15 = .ok (.getstatic 65, 3) := by decide +kernel
theorem dX1_hasRoomFor_18 : decode cX1_hasRoomFor 18 = .ok (.iload_n 1, 1) := by decide +kernel
theorem dX1_hasRoomFor_19 : decode cX1_hasRoomFor 19 = .ok (.iaload, 1) := by decide +kernel
theorem dX1_hasRoomFor_20 : decode cX1_hasRoomFor 20 = .ok (.aload_n 0, 1) := by decide +kernel
theorem dX1_hasRoomFor_21 : decode cX1_hasRoomFor 21 = .ok (.getfield 18, 3) := by decide +kernel
theorem dX1_hasRoomFor_24 : decode cX1_hasRoomFor 24 = .ok (.iconst (-1), 1) := by decide +kernel
theorem dX1_hasRoomFor_25 : decode cX1_hasRoomFor 25 = .ok (.ixor, 1) := by decide +kernel
theorem dX1_hasRoomFor_26 : decode cX1_hasRoomFor 26 = .ok (.iand, 1) := by decide +kernel
theorem dX1_hasRoomFor_27 : decode cX1_hasRoomFor 27 = .ok (.ifCond .ne 7, 3) := by decide +kernel
theorem dX1_hasRoomFor_30 : decode cX1_hasRoomFor 30 = .ok (.iconst 1, 1) := by decide +kernel
theorem dX1_hasRoomFor_31 : decode cX1_hasRoomFor 31 = .ok (.goto 4, 3) := by decide +kernel
theorem dX1_hasRoomFor_34 : decode cX1_hasRoomFor 34 = .ok (.iconst 0, 1) := by decide +kernel
theorem dX1_hasRoomFor_35 : decode cX1_hasRoomFor 35 = .ok (.ireturn, 1) := by decide +kernel
theorem dX1_canLay_0 : decode cX1_canLay 0 = .ok (.iload_n 2, 1) := by decide +kernel
theorem dX1_canLay_1 : decode cX1_canLay 1 = .ok (.invokestatic 50, 3) := by decide +kernel
theorem dX1_canLay_4 : decode cX1_canLay 4 = .ok (.ifCond .eq 27, 3) := by decide +kernel
theorem dX1_canLay_7 : decode cX1_canLay 7 = .ok (.aload_n 0, 1) := by decide +kernel
theorem dX1_canLay_8 : decode cX1_canLay 8 = .ok (.iload_n 1, 1) := by decide +kernel
theorem dX1_canLay_9 : decode cX1_canLay 9 = .ok (.invokevirtual 68, 3) := by decide +kernel
theorem dX1_canLay_12 : decode cX1_canLay 12 = .ok (.ifCond .eq 19, 3) := by decide +kernel
theorem dX1_canLay_15 : decode cX1_canLay 15 = .ok (.iload_n 1, 1) := by decide +kernel
theorem dX1_canLay_16 : decode cX1_canLay 16 = .ok (.invokestatic 34, 3) := by decide +kernel
theorem dX1_canLay_19 : decode cX1_canLay 19 = .ok (.aload_n 0, 1) := by decide +kernel
theorem dX1_canLay_20 : decode cX1_canLay 20 = .ok (.iload_n 2, 1) := by decide +kernel
theorem dX1_canLay_21 : decode cX1_canLay 21 = .ok (.invokevirtual 53, 3) := by decide +kernel
theorem dX1_canLay_24 : decode cX1_canLay 24 = .ok (.if_icmp .gt 7, 3) := by decide +kernel
theorem dX1_canLay_27 : decode cX1_canLay 27 = .ok (.iconst 1, 1) := by decide +kernel
theorem dX1_canLay_28 : decode cX1_canLay 28 = .ok (.goto 4, 3) := by decide +kernel
theorem dX1_canLay_31 : decode cX1_canLay 31 = .ok (.iconst 0, 1) := by decide +kernel
theorem dX1_canLay_32 : decode cX1_canLay 32 = .ok (.ireturn, 1) := by decide +kernel
theorem dX1_place_0 : decode cX1_place 0 = .ok (.aload_n 0, 1) := by decide +kernel
theorem dX1_place_1 : decode cX1_place 1 = .ok (.dup, 1) := by decide +kernel
theorem dX1_place_2 : decode cX1_place 2 = .ok (.getfield 18, 3) := by decide +kernel
theorem dX1_place_5 : decode cX1_place 5 = .ok (.iconst 1, 1) := by decide +kernel
theorem dX1_place_6 : decode cX1_place 6 = .ok (.iload_n 1, 1) := by decide +kernel
theorem dX1_place_7 : decode cX1_place 7 = .ok (.ishl, 1) := by decide +kernel
theorem dX1_place_8 : decode cX1_place 8 = .ok (.ior, 1) := by decide +kernel
theorem dX1_place_9 : decode cX1_place 9 = .ok (.putfield 18, 3) := by decide +kernel
theorem dX1_place_12 : decode cX1_place 12 = .ok (.aload_n 0, 1) := by decide +kernel
theorem dX1_place_13 : decode cX1_place 13 = .ok (.aload_n 0, 1) := by decide +kernel
theorem dX1_place_14 : decode cX1_place 14 = .ok (.getfield 22, 3) := by decide +kernel
theorem dX1_place_17 : decode cX1_place 17 = .ok (.iconst 3, 1) := by decide +kernel
theorem dX1_place_18 : decode cX1_place 18 = .ok (.iconst 2, 1) := by decide +kernel
theorem dX1_place_19 : decode cX1_place 19 = .ok (.iload_n 1, 1) := by decide +kernel
theorem dX1_place_20 : decode cX1_place 20 = .ok (.imul, 1) := by decide +kernel
theorem dX1_place_21 : decode cX1_place 21 = .ok (.ishl, 1) := by decide +kernel
theorem dX1_place_22 : decode cX1_place 22 = .ok (.iconst (-1), 1) := by decide +kernel
theorem dX1_place_23 : decode cX1_place 23 = .ok (.ixor, 1) := by decide +kernel
theorem dX1_place_24 : decode cX1_place 24 = .ok (.iand, 1) := by decide +kernel
theorem dX1_place_25 : decode cX1_place 25 = .ok (.iload_n 2, 1) := by decide +kernel
theorem dX1_place_26 : decode cX1_place 26 = .ok (.iconst 2, 1) := by decide +kernel
theorem dX1_place_27 : decode cX1_place 27 = .ok (.iload_n 1, 1) := by decide +kernel
theorem dX1_place_28 : decode cX1_place 28 = .ok (.imul, 1) := by decide +kernel
theorem dX1_place_29 : decode cX1_place 29 = .ok (.ishl, 1) := by decide +kernel
theorem dX1_place_30 : decode cX1_place 30 = .ok (.ior, 1) := by decide +kernel
theorem dX1_place_31 : decode cX1_place 31 = .ok (.putfield 22, 3) := by decide +kernel
theorem dX1_place_34 : decode cX1_place 34 = .ok (.return_, 1) := by decide +kernel
theorem dX1_lay_0 : decode cX1_lay 0 = .ok (.aload_n 0, 1) := by decide +kernel
theorem dX1_lay_1 : decode cX1_lay 1 = .ok (.iload_n 1, 1) := by decide +kernel
theorem dX1_lay_2 : decode cX1_lay 2 = .ok (.iload_n 2, 1) := by decide +kernel
theorem dX1_lay_3 : decode cX1_lay 3 = .ok (.invokevirtual 71, 3) := by decide +kernel
theorem dX1_lay_6 : decode cX1_lay 6 = .ok (.aload_n 0, 1) := by decide +kernel
theorem dX1_lay_7 : decode cX1_lay 7 = .ok (.invokevirtual 75, 3) := by decide +kernel
theorem dX1_lay_10 : decode cX1_lay 10 = .ok (.ireturn, 1) := by decide +kernel
theorem dX1_layIfCan_0 : decode cX1_layIfCan 0 = .ok (.aload_n 0, 1) := by decide +kernel
theorem dX1_layIfCan_1 : decode cX1_layIfCan 1 = .ok (.iload_n 1, 1) := by decide +kernel
theorem dX1_layIfCan_2 : decode cX1_layIfCan 2 = .ok (.iload_n 2, 1) := by decide +kernel
theorem dX1_layIfCan_3 : decode cX1_layIfCan 3 = .ok (.invokevirtual 79, 3) := by decide +kernel
theorem dX1_layIfCan_6 : decode cX1_layIfCan 6 = .ok (.ifCond .ne 5, 3) := by decide +kernel
theorem dX1_layIfCan_9 : decode cX1_layIfCan 9 = .ok (.iconst 0, 1) := by decide +kernel
theorem dX1_layIfCan_10 : decode cX1_layIfCan 10 = .ok (.ireturn, 1) := by decide +kernel
theorem dX1_layIfCan_11 : decode cX1_layIfCan 11 = .ok (.aload_n 0, 1) := by decide +kernel
theorem dX1_layIfCan_12 : decode cX1_layIfCan 12 = .ok (.iload_n 1, 1) := by decide +kernel
theorem dX1_layIfCan_13 : decode cX1_layIfCan 13 = .ok (.iload_n 2, 1) := by decide +kernel
theorem dX1_layIfCan_14 : decode cX1_layIfCan 14 = .ok (.invokevirtual 71, 3) := by decide +kernel
theorem dX1_layIfCan_17 : decode cX1_layIfCan 17 = .ok (.aload_n 0, 1) := by decide +kernel
theorem dX1_layIfCan_18 : decode cX1_layIfCan 18 = .ok (.invokevirtual 75, 3) := by decide +kernel
theorem dX1_layIfCan_21 : decode cX1_layIfCan 21 = .ok (.pop, 1) := by decide +kernel
theorem dX1_layIfCan_22 : decode cX1_layIfCan 22 = .ok (.iconst 1, 1) := by decide +kernel
theorem dX1_layIfCan_23 : decode cX1_layIfCan 23 = .ok (.ireturn, 1) := by decide +kernel
theorem dX1_canLift_0 : decode cX1_canLift 0 = .ok (.aload_n 0, 1) := by decide +kernel
theorem dX1_canLift_1 : decode cX1_canLift 1 = .ok (.iload_n 1, 1) := by decide +kernel
theorem dX1_canLift_2 : decode cX1_canLift 2 = .ok (.invokevirtual 43, 3) := by decide +kernel
theorem dX1_canLift_5 : decode cX1_canLift 5 = .ok (.ifCond .eq 20, 3) := by decide +kernel
theorem dX1_canLift_8 : decode cX1_canLift 8 = .ok (.aload_n 0, 1) := by decide +kernel
theorem dX1_canLift_9 : decode cX1_canLift 9 = .ok (.iconst 1, 1) := by decide +kernel
theorem dX1_canLift_10 : decode cX1_canLift 10 = .ok (.iload_n 1, 1) := by decide +kernel
theorem dX1_canLift_11 : decode cX1_canLift 11 = .ok (.ishl, 1) := by decide +kernel
theorem dX1_canLift_12 : decode cX1_canLift 12 = .ok (.invokevirtual 83, 3) := by decide +kernel
theorem dX1_canLift_15 : decode cX1_canLift 15 = .ok (.iconst 1, 1) := by decide +kernel
theorem dX1_canLift_16 : decode cX1_canLift 16 = .ok (.iload_n 1, 1) := by decide +kernel
theorem dX1_canLift_17 : decode cX1_canLift 17 = .ok (.ishl, 1) := by decide +kernel
theorem dX1_canLift_18 : decode cX1_canLift 18 = .ok (.if_icmp .ne 7, 3) := by decide +kernel
theorem dX1_canLift_21 : decode cX1_canLift 21 = .ok (.iconst 1, 1) := by decide +kernel
theorem dX1_canLift_22 : decode cX1_canLift 22 = .ok (.goto 4, 3) := by decide +kernel
theorem dX1_canLift_25 : decode cX1_canLift 25 = .ok (.iconst 0, 1) := by decide +kernel
theorem dX1_canLift_26 : decode cX1_canLift 26 = .ok (.ireturn, 1) := by decide +kernel
theorem dX1_lift_0 : decode cX1_lift 0 = .ok (.aload_n 0, 1) := by decide +kernel
theorem dX1_lift_1 : decode cX1_lift 1 = .ok (.dup, 1) := by decide +kernel
theorem dX1_lift_2 : decode cX1_lift 2 = .ok (.getfield 18, 3) := by decide +kernel
theorem dX1_lift_5 : decode cX1_lift 5 = .ok (.iconst 1, 1) := by decide +kernel
theorem dX1_lift_6 : decode cX1_lift 6 = .ok (.iload_n 1, 1) := by decide +kernel
theorem dX1_lift_7 : decode cX1_lift 7 = .ok (.ishl, 1) := by decide +kernel
theorem dX1_lift_8 : decode cX1_lift 8 = .ok (.iconst (-1), 1) := by decide +kernel
theorem dX1_lift_9 : decode cX1_lift 9 = .ok (.ixor, 1) := by decide +kernel
theorem dX1_lift_10 : decode cX1_lift 10 = .ok (.iand, 1) := by decide +kernel
theorem dX1_lift_11 : decode cX1_lift 11 = .ok (.putfield 18, 3) := by decide +kernel
theorem dX1_lift_14 : decode cX1_lift 14 = .ok (.return_, 1) := by decide +kernel
theorem dX1_liftIfCan_0 : decode cX1_liftIfCan 0 = .ok (.iload_n 1, 1) := by decide +kernel
theorem dX1_liftIfCan_1 : decode cX1_liftIfCan 1 = .ok (.invokestatic 62, 3) := by decide +kernel
theorem dX1_liftIfCan_4 : decode cX1_liftIfCan 4 = .ok (.ifCond .eq 11, 3) := by decide +kernel
theorem dX1_liftIfCan_7 : decode cX1_liftIfCan 7 = .ok (.aload_n 0, 1) := by decide +kernel
theorem dX1_liftIfCan_8 : decode cX1_liftIfCan 8 = .ok (.iload_n 1, 1) := by decide +kernel
theorem dX1_liftIfCan_9 : decode cX1_liftIfCan 9 = .ok (.invokevirtual 86, 3) := by decide +kernel
theorem dX1_liftIfCan_12 : decode cX1_liftIfCan 12 = .ok (.ifCond .ne 5, 3) := by decide +kernel
theorem dX1_liftIfCan_15 : decode cX1_liftIfCan 15 = .ok (.iconst 0, 1) := by decide +kernel
theorem dX1_liftIfCan_16 : decode cX1_liftIfCan 16 = .ok (.ireturn, 1) := by decide +kernel
theorem dX1_liftIfCan_17 : decode cX1_liftIfCan 17 = .ok (.aload_n 0, 1) := by decide +kernel
theorem dX1_liftIfCan_18 : decode cX1_liftIfCan 18 = .ok (.iload_n 1, 1) := by decide +kernel
theorem dX1_liftIfCan_19 : decode cX1_liftIfCan 19 = .ok (.invokevirtual 89, 3) := by decide +kernel
theorem dX1_liftIfCan_22 : decode cX1_liftIfCan 22 = .ok (.iconst 1, 1) := by decide +kernel
theorem dX1_liftIfCan_23 : decode cX1_liftIfCan 23 = .ok (.ireturn, 1) := by decide +kernel
theorem dX1_blow_0 : decode cX1_blow 0 = .ok (.aload_n 0, 1) := by decide +kernel
theorem dX1_blow_1 : decode cX1_blow 1 = .ok (.invokevirtual 93, 3) := by decide +kernel
theorem dX1_blow_4 : decode cX1_blow 4 = .ok (.iconst 0, 1) := by decide +kernel
theorem dX1_blow_5 : decode cX1_blow 5 = .ok (.istore_n 3, 1) := by decide +kernel
theorem dX1_blow_6 : decode cX1_blow 6 = .ok (.iconst 0, 1) := by decide +kernel
theorem dX1_blow_7 : decode cX1_blow 7 = .ok (.istore 4, 2) := by decide +kernel
theorem dX1_blow_9 : decode cX1_blow 9 = .ok (.iload 4, 2) := by decide +kernel
theorem dX1_blow_11 : decode cX1_blow 11 = .ok (.bipush 16, 2) := by decide +kernel
theorem dX1_blow_13 : decode cX1_blow 13 = .ok (.if_icmp .ge 49, 3) := by decide +kernel
theorem dX1_blow_16 : decode cX1_blow 16 = .ok (.aload_n 0, 1) := by decide +kernel
theorem dX1_blow_17 : decode cX1_blow 17 = .ok (.iload 4, 2) := by decide +kernel
theorem dX1_blow_19 : decode cX1_blow 19 = .ok (.iload_n 1, 1) := by decide +kernel
theorem dX1_blow_20 : decode cX1_blow 20 = .ok (.invokevirtual 96, 3) := by decide +kernel
theorem dX1_blow_23 : decode cX1_blow 23 = .ok (.ifCond .eq 33, 3) := by decide +kernel
theorem dX1_blow_26 : decode cX1_blow 26 = .ok (.aload_n 0, 1) := by decide +kernel
theorem dX1_blow_27 : decode cX1_blow 27 = .ok (.iload 4, 2) := by decide +kernel
theorem dX1_blow_29 : decode cX1_blow 29 = .ok (.invokevirtual 37, 3) := by decide +kernel
theorem dX1_blow_32 : decode cX1_blow 32 = .ok (.aload_n 0, 1) := by decide +kernel
theorem dX1_blow_33 : decode cX1_blow 33 = .ok (.getfield 15, 3) := by decide +kernel
theorem dX1_blow_36 : decode cX1_blow 36 = .ok (.iload 4, 2) := by decide +kernel
theorem dX1_blow_38 : decode cX1_blow 38 = .ok (.iaload, 1) := by decide +kernel
theorem dX1_blow_39 : decode cX1_blow 39 = .ok (.invokestatic 99, 3) := by decide +kernel
theorem dX1_blow_42 : decode cX1_blow 42 = .ok (.bipush 8, 2) := by decide +kernel
theorem dX1_blow_44 : decode cX1_blow 44 = .ok (.iload_n 2, 1) := by decide +kernel
theorem dX1_blow_45 : decode cX1_blow 45 = .ok (.imul, 1) := by decide +kernel
theorem dX1_blow_46 : decode cX1_blow 46 = .ok (.if_icmp .ge 10, 3) := by decide +kernel
theorem dX1_blow_49 : decode cX1_blow 49 = .ok (.iload_n 3, 1) := by decide +kernel
theorem dX1_blow_50 : decode cX1_blow 50 = .ok (.iconst 1, 1) := by decide +kernel
theorem dX1_blow_51 : decode cX1_blow 51 = .ok (.iload 4, 2) := by decide +kernel
theorem dX1_blow_53 : decode cX1_blow 53 = .ok (.ishl, 1) := by decide +kernel
theorem dX1_blow_54 : decode cX1_blow 54 = .ok (.ior, 1) := by decide +kernel
theorem dX1_blow_55 : decode cX1_blow 55 = .ok (.istore_n 3, 1) := by decide +kernel
theorem dX1_blow_56 : decode cX1_blow 56 = .ok (.iinc 4 1, 3) := by decide +kernel
theorem dX1_blow_59 : decode cX1_blow 59 = .ok (.goto (-50), 3) := by decide +kernel
theorem dX1_blow_62 : decode cX1_blow 62 = .ok (.aload_n 0, 1) := by decide +kernel
theorem dX1_blow_63 : decode cX1_blow 63 = .ok (.iload_n 3, 1) := by decide +kernel
theorem dX1_blow_64 : decode cX1_blow 64 = .ok (.invokevirtual 102, 3) := by decide +kernel
theorem dX1_blow_67 : decode cX1_blow 67 = .ok (.ireturn, 1) := by decide +kernel
theorem dX1_blowIfCan_0 : decode cX1_blowIfCan 0 = .ok (.iload_n 1, 1) := by decide +kernel
theorem dX1_blowIfCan_1 : decode cX1_blowIfCan 1 = .ok (.invokestatic 105, 3) := by decide +kernel
theorem dX1_blowIfCan_4 : decode cX1_blowIfCan 4 = .ok (.ifCond .eq 10, 3) := by decide +kernel
theorem dX1_blowIfCan_7 : decode cX1_blowIfCan 7 = .ok (.iload_n 2, 1) := by decide +kernel
theorem dX1_blowIfCan_8 : decode cX1_blowIfCan 8 = .ok (.invokestatic 108, 3) := by decide +kernel
theorem dX1_blowIfCan_11 : decode cX1_blowIfCan 11 = .ok (.ifCond .ne 5, 3) := by decide +kernel
theorem dX1_blowIfCan_14 : decode cX1_blowIfCan 14 = .ok (.iconst 0, 1) := by decide +kernel
theorem dX1_blowIfCan_15 : decode cX1_blowIfCan 15 = .ok (.ireturn, 1) := by decide +kernel
theorem dX1_blowIfCan_16 : decode cX1_blowIfCan 16 = .ok (.aload_n 0, 1) := by decide +kernel
theorem dX1_blowIfCan_17 : decode cX1_blowIfCan 17 = .ok (.iload_n 1, 1) := by decide +kernel
theorem dX1_blowIfCan_18 : decode cX1_blowIfCan 18 = .ok (.iload_n 2, 1) := by decide +kernel
theorem dX1_blowIfCan_19 : decode cX1_blowIfCan 19 = .ok (.invokevirtual 111, 3) := by decide +kernel
theorem dX1_blowIfCan_22 : decode cX1_blowIfCan 22 = .ok (.pop, 1) := by decide +kernel
theorem dX1_blowIfCan_23 : decode cX1_blowIfCan 23 = .ok (.iconst 1, 1) := by decide +kernel
theorem dX1_blowIfCan_24 : decode cX1_blowIfCan 24 = .ok (.ireturn, 1) := by decide +kernel
theorem dX1_forceStood_0 : decode cX1_forceStood 0 = .ok (.aload_n 0, 1) := by decide +kernel
theorem dX1_forceStood_1 : decode cX1_forceStood 1 = .ok (.invokevirtual 93, 3) := by decide +kernel
theorem dX1_forceStood_4 : decode cX1_forceStood 4 = .ok (.bipush 9, 2) := by decide +kernel
theorem dX1_forceStood_6 : decode cX1_forceStood 6 = .ok (.istore_n 2, 1) := by decide +kernel
theorem dX1_forceStood_7 : decode cX1_forceStood 7 = .ok (.iconst 0, 1) := by decide +kernel
theorem dX1_forceStood_8 : decode cX1_forceStood 8 = .ok (.istore_n 3, 1) := by decide +kernel
theorem dX1_forceStood_9 : decode cX1_forceStood 9 = .ok (.iload_n 3, 1) := by decide +kernel
theorem dX1_forceStood_10 : decode cX1_forceStood 10 = .ok (.bipush 16, 2) := by decide +kernel
theorem dX1_forceStood_12 : decode cX1_forceStood 12 = .ok (.if_icmp .ge 40, 3) := by decide +kernel
theorem dX1_forceStood_15 : decode cX1_forceStood 15 = .ok (.aload_n 0, 1) := by decide +kernel
theorem dX1_forceStood_16 : decode cX1_forceStood 16 = .ok (.iload_n 3, 1) := by decide +kernel
theorem dX1_forceStood_17 : decode cX1_forceStood 17 = .ok (.iload_n 1, 1) := by decide +kernel
theorem dX1_forceStood_18 : decode cX1_forceStood 18 = .ok (.invokevirtual 96, 3) := by decide +kernel
theorem dX1_forceStood_21 : decode cX1_forceStood 21 = .ok (.ifCond .eq 25, 3) := by decide +kernel
theorem dX1_forceStood_24 : decode cX1_forceStood 24 = .ok (.iload_n 2, 1) := by decide +kernel
theorem dX1_forceStood_25 : decode cX1_forceStood 25 = .ok (.aload_n 0, 1) := by decide +kernel
theorem dX1_forceStood_26 : decode cX1_forceStood 26 = .ok (.iload_n 3, 1) := by decide +kernel
theorem dX1_forceStood_27 : decode cX1_forceStood 27 = .ok (.invokevirtual 37, 3) := by decide +kernel
theorem dX1_forceStood_30 : decode cX1_forceStood 30 = .ok (.aload_n 0, 1) := by decide +kernel
theorem dX1_forceStood_31 : decode cX1_forceStood 31 = .ok (.getfield 15, 3) := by decide +kernel
theorem dX1_forceStood_34 : decode cX1_forceStood 34 = .ok (.iload_n 3, 1) := by decide +kernel
theorem dX1_forceStood_35 : decode cX1_forceStood 35 = .ok (.iaload, 1) := by decide +kernel
theorem dX1_forceStood_36 : decode cX1_forceStood 36 = .ok (.invokestatic 99, 3) := by decide +kernel
theorem dX1_forceStood_39 : decode cX1_forceStood 39 = .ok (.bipush 8, 2) := by decide +kernel
theorem dX1_forceStood_41 : decode cX1_forceStood 41 = .ok (.idiv, 1) := by decide +kernel
theorem dX1_forceStood_42 : decode cX1_forceStood 42 = .ok (.invokestatic 114, 3) := by decide +kernel
theorem dX1_forceStood_45 : decode cX1_forceStood 45 = .ok (.istore_n 2, 1) := by decide +kernel
theorem dX1_forceStood_46 : decode cX1_forceStood 46 = .ok (.iinc 3 1, 3) := by decide +kernel
theorem dX1_forceStood_49 : decode cX1_forceStood 49 = .ok (.goto (-40), 3) := by decide +kernel
theorem dX1_forceStood_52 : decode cX1_forceStood 52 = .ok (.iload_n 2, 1) := by decide +kernel
theorem dX1_forceStood_53 : decode cX1_forceStood 53 = .ok (.ireturn, 1) := by decide +kernel
theorem dX1_isTentOfLevel_0 : decode cX1_isTentOfLevel 0 = .ok (.iload_n 2, 1) := by decide +kernel
theorem dX1_isTentOfLevel_1 : decode cX1_isTentOfLevel 1 = .ok (.invokestatic 105, 3) := by decide +kernel
theorem dX1_isTentOfLevel_4 : decode cX1_isTentOfLevel 4 = .ok (.ifCond .eq 24, 3) := by decide +kernel
theorem dX1_isTentOfLevel_7 : decode cX1_isTentOfLevel 7 = .ok (.aload_n 0, 1) := by decide +kernel
theorem dX1_isTentOfLevel_8 : decode cX1_isTentOfLevel 8 = .ok (.getfield 18, 3) := by decide +kernel
theorem dX1_isTentOfLevel_11 : decode cX1_isTentOfLevel 11 = .ok (.getstatic 117, 3) := by decide +kernel
theorem dX1_isTentOfLevel_14 : decode cX1_isTentOfLevel 14 = .ok (.iload_n 2, 1) := by decide +kernel
theorem dX1_isTentOfLevel_15 : decode cX1_isTentOfLevel 15 = .ok (.iaload, 1) := by decide +kernel
theorem dX1_isTentOfLevel_16 : decode cX1_isTentOfLevel 16 = .ok (.iand, 1) := by decide +kernel
theorem dX1_isTentOfLevel_17 : decode cX1_isTentOfLevel 17 = .ok (.iconst 1, 1) := by decide +kernel
theorem dX1_isTentOfLevel_18 : decode cX1_isTentOfLevel 18 = .ok (.iload_n 1, 1) := by decide +kernel
theorem dX1_isTentOfLevel_19 : decode cX1_isTentOfLevel 19 = .ok (.ishl, 1) := by decide +kernel
theorem dX1_isTentOfLevel_20 : decode cX1_isTentOfLevel 20 = .ok (.iand, 1) := by decide +kernel
theorem dX1_isTentOfLevel_21 : decode cX1_isTentOfLevel 21 = .ok (.ifCond .eq 7, 3) := by decide +kernel
theorem dX1_isTentOfLevel_24 : decode cX1_isTentOfLevel 24 = .ok (.iconst 1, 1) := by decide +kernel
theorem dX1_isTentOfLevel_25 : decode cX1_isTentOfLevel 25 = .ok (.goto 4, 3) := by decide +kernel
theorem dX1_isTentOfLevel_28 : decode cX1_isTentOfLevel 28 = .ok (.iconst 0, 1) := by decide +kernel
theorem dX1_isTentOfLevel_29 : decode cX1_isTentOfLevel 29 = .ok (.ireturn, 1) := by decide +kernel
theorem dX1_settle_0 : decode cX1_settle 0 = .ok (.iconst 0, 1) := by decide +kernel
theorem dX1_settle_1 : decode cX1_settle 1 = .ok (.istore_n 1, 1) := by decide +kernel
theorem dX1_settle_2 : decode cX1_settle 2 = .ok (.iconst 0, 1) := by decide +kernel
theorem dX1_settle_3 : decode cX1_settle 3 = .ok (.istore_n 2, 1) := by decide +kernel
theorem dX1_settle_4 : decode cX1_settle 4 = .ok (.iload_n 2, 1) := by decide +kernel
theorem dX1_settle_5 : decode cX1_settle 5 = .ok (.bipush 16, 2) := by decide +kernel
theorem dX1_settle_7 : decode cX1_settle 7 = .ok (.if_icmp .ge 82, 3) := by decide +kernel
theorem dX1_settle_10 : decode cX1_settle 10 = .ok (.aload_n 0, 1) := by decide +kernel
theorem dX1_settle_11 : decode cX1_settle 11 = .ok (.invokevirtual 93, 3) := by decide +kernel
theorem dX1_settle_14 : decode cX1_settle 14 = .ok (.iconst 0, 1) := by decide +kernel
theorem dX1_settle_15 : decode cX1_settle 15 = .ok (.istore_n 3, 1) := by decide +kernel
theorem dX1_settle_16 : decode cX1_settle 16 = .ok (.iconst 0, 1) := by decide +kernel
theorem dX1_settle_17 : decode cX1_settle 17 = .ok (.istore 4, 2) := by decide +kernel
theorem dX1_settle_19 : decode cX1_settle 19 = .ok (.iload 4, 2) := by decide +kernel
theorem dX1_settle_21 : decode cX1_settle 21 = .ok (.bipush 16, 2) := by decide +kernel
theorem dX1_settle_23 : decode cX1_settle 23 = .ok (.if_icmp .ge 45, 3) := by decide +kernel
theorem dX1_settle_26 : decode cX1_settle 26 = .ok (.aload_n 0, 1) := by decide +kernel
theorem dX1_settle_27 : decode cX1_settle 27 = .ok (.iload 4, 2) := by decide +kernel
theorem dX1_settle_29 : decode cX1_settle 29 = .ok (.invokevirtual 43, 3) := by decide +kernel
theorem dX1_settle_32 : decode cX1_settle 32 = .ok (.ifCond .eq 30, 3) := by decide +kernel
theorem dX1_settle_35 : decode cX1_settle 35 = .ok (.aload_n 0, 1) := by decide +kernel
theorem dX1_settle_36 : decode cX1_settle 36 = .ok (.getfield 15, 3) := by decide +kernel
theorem dX1_settle_39 : decode cX1_settle 39 = .ok (.iload 4, 2) := by decide +kernel
theorem dX1_settle_41 : decode cX1_settle 41 = .ok (.iaload, 1) := by decide +kernel
theorem dX1_settle_42 : decode cX1_settle 42 = .ok (.getstatic 120, 3) := by decide +kernel
theorem dX1_settle_45 : decode cX1_settle 45 = .ok (.aload_n 0, 1) := by decide +kernel
theorem dX1_settle_46 : decode cX1_settle 46 = .ok (.iload 4, 2) := by decide +kernel
theorem dX1_settle_48 : decode cX1_settle 48 = .ok (.invokevirtual 37, 3) := by decide +kernel
theorem dX1_settle_51 : decode cX1_settle 51 = .ok (.iaload, 1) := by decide +kernel
theorem dX1_settle_52 : decode cX1_settle 52 = .ok (.if_icmp .le 10, 3) := by decide +kernel
theorem dX1_settle_55 : decode cX1_settle 55 = .ok (.iload_n 3, 1) := by decide +kernel
theorem dX1_settle_56 : decode cX1_settle 56 = .ok (.iconst 1, 1) := by decide +kernel
theorem dX1_settle_57 : decode cX1_settle 57 = .ok (.iload 4, 2) := by decide +kernel
theorem dX1_settle_59 : decode cX1_settle 59 = .ok (.ishl, 1) := by decide +kernel
theorem dX1_settle_60 : decode cX1_settle 60 = .ok (.ior, 1) := by decide +kernel
theorem dX1_settle_61 : decode cX1_settle 61 = .ok (.istore_n 3, 1) := by decide +kernel
theorem dX1_settle_62 : decode cX1_settle 62 = .ok (.iinc 4 1, 3) := by decide +kernel
theorem dX1_settle_65 : decode cX1_settle 65 = .ok (.goto (-46), 3) := by decide +kernel
theorem dX1_settle_68 : decode cX1_settle 68 = .ok (.iload_n 3, 1) := by decide +kernel
theorem dX1_settle_69 : decode cX1_settle 69 = .ok (.ifCond .ne 6, 3) := by decide +kernel
theorem dX1_settle_72 : decode cX1_settle 72 = .ok (.goto 17, 3) := by decide +kernel
theorem dX1_settle_75 : decode cX1_settle 75 = .ok (.iload_n 1, 1) := by decide +kernel
theorem dX1_settle_76 : decode cX1_settle 76 = .ok (.aload_n 0, 1) := by decide +kernel
theorem dX1_settle_77 : decode cX1_settle 77 = .ok (.iload_n 3, 1) := by decide +kernel
theorem dX1_settle_78 : decode cX1_settle 78 = .ok (.invokevirtual 102, 3) := by decide +kernel
theorem dX1_settle_81 : decode cX1_settle 81 = .ok (.iadd, 1) := by decide +kernel
theorem dX1_settle_82 : decode cX1_settle 82 = .ok (.istore_n 1, 1) := by decide +kernel
theorem dX1_settle_83 : decode cX1_settle 83 = .ok (.iinc 2 1, 3) := by decide +kernel
theorem dX1_settle_86 : decode cX1_settle 86 = .ok (.goto (-82), 3) := by decide +kernel
theorem dX1_settle_89 : decode cX1_settle 89 = .ok (.iload_n 1, 1) := by decide +kernel
theorem dX1_settle_90 : decode cX1_settle 90 = .ok (.ireturn, 1) := by decide +kernel
theorem dX1_drop_0 : decode cX1_drop 0 = .ok (.aload_n 0, 1) := by decide +kernel
theorem dX1_drop_1 : decode cX1_drop 1 = .ok (.iload_n 1, 1) := by decide +kernel
theorem dX1_drop_2 : decode cX1_drop 2 = .ok (.invokevirtual 83, 3) := by decide +kernel
theorem dX1_drop_5 : decode cX1_drop 5 = .ok (.istore_n 2, 1) := by decide +kernel
theorem dX1_drop_6 : decode cX1_drop 6 = .ok (.aload_n 0, 1) := by decide +kernel
theorem dX1_drop_7 : decode cX1_drop 7 = .ok (.dup, 1) := by decide +kernel
theorem dX1_drop_8 : decode cX1_drop 8 = .ok (.getfield 18, 3) := by decide +kernel
theorem dX1_drop_11 : decode cX1_drop 11 = .ok (.iload_n 2, 1) := by decide +kernel
theorem dX1_drop_12 : decode cX1_drop 12 = .ok (.iconst (-1), 1) := by decide +kernel
theorem dX1_drop_13 : decode cX1_drop 13 = .ok (.ixor, 1) := by decide +kernel
theorem dX1_drop_14 : decode cX1_drop 14 = .ok (.iand, 1) := by decide +kernel
theorem dX1_drop_15 : decode cX1_drop 15 = .ok (.putfield 18, 3) := by decide +kernel
theorem dX1_drop_18 : decode cX1_drop 18 = .ok (.iload_n 2, 1) := by decide +kernel
theorem dX1_drop_19 : decode cX1_drop 19 = .ok (.invokestatic 28, 3) := by decide +kernel
theorem dX1_drop_22 : decode cX1_drop 22 = .ok (.istore_n 3, 1) := by decide +kernel
theorem dX1_drop_23 : decode cX1_drop 23 = .ok (.aload_n 0, 1) := by decide +kernel
theorem dX1_drop_24 : decode cX1_drop 24 = .ok (.dup, 1) := by decide +kernel
theorem dX1_drop_25 : decode cX1_drop 25 = .ok (.getfield 25, 3) := by decide +kernel
theorem dX1_drop_28 : decode cX1_drop 28 = .ok (.iload_n 3, 1) := by decide +kernel
theorem dX1_drop_29 : decode cX1_drop 29 = .ok (.iadd, 1) := by decide +kernel
theorem dX1_drop_30 : decode cX1_drop 30 = .ok (.putfield 25, 3) := by decide +kernel
theorem dX1_drop_33 : decode cX1_drop 33 = .ok (.iload_n 3, 1) := by decide +kernel
theorem dX1_drop_34 : decode cX1_drop 34 = .ok (.ireturn, 1) := by decide +kernel
theorem dX1_goneWith_0 : decode cX1_goneWith 0 = .ok (.iload_n 1, 1) := by decide +kernel
theorem dX1_goneWith_1 : decode cX1_goneWith 1 = .ok (.aload_n 0, 1) := by decide +kernel
theorem dX1_goneWith_2 : decode cX1_goneWith 2 = .ok (.getfield 18, 3) := by decide +kernel
theorem dX1_goneWith_5 : decode cX1_goneWith 5 = .ok (.iand, 1) := by decide +kernel
theorem dX1_goneWith_6 : decode cX1_goneWith 6 = .ok (.istore_n 2, 1) := by decide +kernel
theorem dX1_goneWith_7 : decode cX1_goneWith 7 = .ok (.iconst 0, 1) := by decide +kernel
theorem dX1_goneWith_8 : decode cX1_goneWith 8 = .ok (.istore_n 3, 1) := by decide +kernel
theorem dX1_goneWith_9 : decode cX1_goneWith 9 = .ok (.iload_n 3, 1) := by decide +kernel
theorem dX1_goneWith_10 : decode cX1_goneWith 10 = .ok (.bipush 16, 2) := by decide +kernel
theorem dX1_goneWith_12 : decode cX1_goneWith 12 = .ok (.if_icmp .ge 33, 3) := by decide +kernel
theorem dX1_goneWith_15 : decode cX1_goneWith 15 = .ok (.aload_n 0, 1) := by decide +kernel
theorem dX1_goneWith_16 : decode cX1_goneWith 16 = .ok (.iload_n 3, 1) := by decide +kernel
theorem dX1_goneWith_17 : decode cX1_goneWith 17 = .ok (.invokevirtual 43, 3) := by decide +kernel
theorem dX1_goneWith_20 : decode cX1_goneWith 20 = .ok (.ifCond .eq 19, 3) := by decide +kernel
theorem dX1_goneWith_23 : decode cX1_goneWith 23 = .ok (.getstatic 65, 3) := by decide +kernel
theorem dX1_goneWith_26 : decode cX1_goneWith 26 = .ok (.iload_n 3, 1) := by decide +kernel
theorem dX1_goneWith_27 : decode cX1_goneWith 27 = .ok (.iaload, 1) := by decide +kernel
theorem dX1_goneWith_28 : decode cX1_goneWith 28 = .ok (.iload_n 2, 1) := by decide +kernel
theorem dX1_goneWith_29 : decode cX1_goneWith 29 = .ok (.iand, 1) := by decide +kernel
theorem dX1_goneWith_30 : decode cX1_goneWith 30 = .ok (.ifCond .eq 9, 3) := by decide +kernel
theorem dX1_goneWith_33 : decode cX1_goneWith 33 = .ok (.iload_n 2, 1) := by decide +kernel
theorem dX1_goneWith_34 : decode cX1_goneWith 34 = .ok (.iconst 1, 1) := by decide +kernel
theorem dX1_goneWith_35 : decode cX1_goneWith 35 = .ok (.iload_n 3, 1) := by decide +kernel
theorem dX1_goneWith_36 : decode cX1_goneWith 36 = .ok (.ishl, 1) := by decide +kernel
theorem dX1_goneWith_37 : decode cX1_goneWith 37 = .ok (.ior, 1) := by decide +kernel
theorem dX1_goneWith_38 : decode cX1_goneWith 38 = .ok (.istore_n 2, 1) := by decide +kernel
theorem dX1_goneWith_39 : decode cX1_goneWith 39 = .ok (.iinc 3 1, 3) := by decide +kernel
theorem dX1_goneWith_42 : decode cX1_goneWith 42 = .ok (.goto (-33), 3) := by decide +kernel
theorem dX1_goneWith_45 : decode cX1_goneWith 45 = .ok (.iload_n 2, 1) := by decide +kernel
theorem dX1_goneWith_46 : decode cX1_goneWith 46 = .ok (.ireturn, 1) := by decide +kernel
theorem dX1_sizeWithout_0 : decode cX1_sizeWithout 0 = .ok (.aload_n 0, 1) := by decide +kernel
theorem dX1_sizeWithout_1 : decode cX1_sizeWithout 1 = .ok (.invokevirtual 123, 3) := by decide +kernel
theorem dX1_sizeWithout_4 : decode cX1_sizeWithout 4 = .ok (.aload_n 0, 1) := by decide +kernel
theorem dX1_sizeWithout_5 : decode cX1_sizeWithout 5 = .ok (.iload_n 1, 1) := by decide +kernel
theorem dX1_sizeWithout_6 : decode cX1_sizeWithout 6 = .ok (.invokevirtual 83, 3) := by decide +kernel
theorem dX1_sizeWithout_9 : decode cX1_sizeWithout 9 = .ok (.invokestatic 28, 3) := by decide +kernel
theorem dX1_sizeWithout_12 : decode cX1_sizeWithout 12 = .ok (.isub, 1) := by decide +kernel
theorem dX1_sizeWithout_13 : decode cX1_sizeWithout 13 = .ok (.ireturn, 1) := by decide +kernel
theorem dX1_missingFor_0 : decode cX1_missingFor 0 = .ok (.iconst 1, 1) := by decide +kernel
theorem dX1_missingFor_1 : decode cX1_missingFor 1 = .ok (.iload_n 1, 1) := by decide +kernel
theorem dX1_missingFor_2 : decode cX1_missingFor 2 = .ok (.ishl, 1) := by decide +kernel
theorem dX1_missingFor_3 : decode cX1_missingFor 3 = .ok (.istore_n 2, 1) := by decide +kernel
theorem dX1_missingFor_4 : decode cX1_missingFor 4 = .ok (.bipush 15, 2) := by decide +kernel
theorem dX1_missingFor_6 : decode cX1_missingFor 6 = .ok (.istore_n 3, 1) := by decide +kernel
theorem dX1_missingFor_7 : decode cX1_missingFor 7 = .ok (.iload_n 3, 1) := by decide +kernel
theorem dX1_missingFor_8 : decode cX1_missingFor 8 = .ok (.ifCond .lt 25, 3) := by decide +kernel
theorem dX1_missingFor_11 : decode cX1_missingFor 11 = .ok (.iload_n 2, 1) := by decide +kernel
theorem dX1_missingFor_12 : decode cX1_missingFor 12 = .ok (.iload_n 3, 1) := by decide +kernel
theorem dX1_missingFor_13 : decode cX1_missingFor 13 = .ok (.ishr, 1) := by decide +kernel
theorem dX1_missingFor_14 : decode cX1_missingFor 14 = .ok (.iconst 1, 1) := by decide +kernel
theorem dX1_missingFor_15 : decode cX1_missingFor 15 = .ok (.iand, 1) := by decide +kernel
theorem dX1_missingFor_16 : decode cX1_missingFor 16 = .ok (.ifCond .eq 11, 3) := by decide +kernel
theorem dX1_missingFor_19 : decode cX1_missingFor 19 = .ok (.iload_n 2, 1) := by decide +kernel
theorem dX1_missingFor_20 : decode cX1_missingFor 20 = .ok (.getstatic 65, 3) := by decide +kernel
theorem dX1_missingFor_23 : decode cX1_missingFor 23 = .ok (.iload_n 3, 1) := by decide +kernel
theorem dX1_missingFor_24 : decode cX1_missingFor 24 = .ok (.iaload, 1) := by decide +kernel
theorem dX1_missingFor_25 : decode cX1_missingFor 25 = .ok (.ior, 1) := by decide +kernel
theorem dX1_missingFor_26 : decode cX1_missingFor 26 = .ok (.istore_n 2, 1) := by decide +kernel
theorem dX1_missingFor_27 : decode cX1_missingFor 27 = .ok (.iinc 3 (-1), 3) := by decide +kernel
theorem dX1_missingFor_30 : decode cX1_missingFor 30 = .ok (.goto (-23), 3) := by decide +kernel
theorem dX1_missingFor_33 : decode cX1_missingFor 33 = .ok (.iload_n 2, 1) := by decide +kernel
theorem dX1_missingFor_34 : decode cX1_missingFor 34 = .ok (.aload_n 0, 1) := by decide +kernel
theorem dX1_missingFor_35 : decode cX1_missingFor 35 = .ok (.getfield 18, 3) := by decide +kernel
theorem dX1_missingFor_38 : decode cX1_missingFor 38 = .ok (.iconst (-1), 1) := by decide +kernel
theorem dX1_missingFor_39 : decode cX1_missingFor 39 = .ok (.ixor, 1) := by decide +kernel
theorem dX1_missingFor_40 : decode cX1_missingFor 40 = .ok (.iand, 1) := by decide +kernel
theorem dX1_missingFor_41 : decode cX1_missingFor 41 = .ok (.ireturn, 1) := by decide +kernel
theorem dX1_loadOf_0 : decode cX1_loadOf 0 = .ok (.aload_n 0, 1) := by decide +kernel
theorem dX1_loadOf_1 : decode cX1_loadOf 1 = .ok (.invokevirtual 93, 3) := by decide +kernel
theorem dX1_loadOf_4 : decode cX1_loadOf 4 = .ok (.iload_n 1, 1) := by decide +kernel
theorem dX1_loadOf_5 : decode cX1_loadOf 5 = .ok (.invokestatic 62, 3) := by decide +kernel
theorem dX1_loadOf_8 : decode cX1_loadOf 8 = .ok (.ifCond .eq 12, 3) := by decide +kernel
theorem dX1_loadOf_11 : decode cX1_loadOf 11 = .ok (.aload_n 0, 1) := by decide +kernel
theorem dX1_loadOf_12 : decode cX1_loadOf 12 = .ok (.getfield 15, 3) := by decide +kernel
theorem dX1_loadOf_15 : decode cX1_loadOf 15 = .ok (.iload_n 1, 1) := by decide +kernel
theorem dX1_loadOf_16 : decode cX1_loadOf 16 = .ok (.iaload, 1) := by decide +kernel
theorem dX1_loadOf_17 : decode cX1_loadOf 17 = .ok (.goto 4, 3) := by decide +kernel
theorem dX1_loadOf_20 : decode cX1_loadOf 20 = .ok (.iconst 0, 1) := by decide +kernel
theorem dX1_loadOf_21 : decode cX1_loadOf 21 = .ok (.ireturn, 1) := by decide +kernel
theorem dX1_weigh_0 : decode cX1_weigh 0 = .ok (.iconst 0, 1) := by decide +kernel
theorem dX1_weigh_1 : decode cX1_weigh 1 = .ok (.istore_n 1, 1) := by decide +kernel
theorem dX1_weigh_2 : decode cX1_weigh 2 = .ok (.iload_n 1, 1) := by decide +kernel
theorem dX1_weigh_3 : decode cX1_weigh 3 = .ok (.bipush 16, 2) := by decide +kernel
theorem dX1_weigh_5 : decode cX1_weigh 5 = .ok (.if_icmp .ge 16, 3) := by decide +kernel
theorem dX1_weigh_8 : decode cX1_weigh 8 = .ok (.aload_n 0, 1) := by decide +kernel
theorem dX1_weigh_9 : decode cX1_weigh 9 = .ok (.getfield 15, 3) := by decide +kernel
theorem dX1_weigh_12 : decode cX1_weigh 12 = .ok (.iload_n 1, 1) := by decide +kernel
theorem dX1_weigh_13 : decode cX1_weigh 13 = .ok (.iconst 0, 1) := by decide +kernel
theorem dX1_weigh_14 : decode cX1_weigh 14 = .ok (.iastore, 1) := by decide +kernel
theorem dX1_weigh_15 : decode cX1_weigh 15 = .ok (.iinc 1 1, 3) := by decide +kernel
theorem dX1_weigh_18 : decode cX1_weigh 18 = .ok (.goto (-16), 3) := by decide +kernel
theorem dX1_weigh_21 : decode cX1_weigh 21 = .ok (.bipush 15, 2) := by decide +kernel
theorem dX1_weigh_23 : decode cX1_weigh 23 = .ok (.istore_n 1, 1) := by decide +kernel
theorem dX1_weigh_24 : decode cX1_weigh 24 = .ok (.iload_n 1, 1) := by decide +kernel
theorem dX1_weigh_25 : decode cX1_weigh 25 = .ok (.ifCond .lt 98, 3) := by decide +kernel
theorem dX1_weigh_28 : decode cX1_weigh 28 = .ok (.aload_n 0, 1) := by decide +kernel
theorem dX1_weigh_29 : decode cX1_weigh 29 = .ok (.iload_n 1, 1) := by decide +kernel
theorem dX1_weigh_30 : decode cX1_weigh 30 = .ok (.invokevirtual 43, 3) := by decide +kernel
theorem dX1_weigh_33 : decode cX1_weigh 33 = .ok (.ifCond .eq 84, 3) := by decide +kernel
theorem dX1_weigh_36 : decode cX1_weigh 36 = .ok (.aload_n 0, 1) := by decide +kernel
theorem dX1_weigh_37 : decode cX1_weigh 37 = .ok (.iload_n 1, 1) := by decide +kernel
theorem dX1_weigh_38 : decode cX1_weigh 38 = .ok (.invokevirtual 126, 3) := by decide +kernel
theorem dX1_weigh_41 : decode cX1_weigh 41 = .ok (.aload_n 0, 1) := by decide +kernel
theorem dX1_weigh_42 : decode cX1_weigh 42 = .ok (.getfield 15, 3) := by decide +kernel
theorem dX1_weigh_45 : decode cX1_weigh 45 = .ok (.iload_n 1, 1) := by decide +kernel
theorem dX1_weigh_46 : decode cX1_weigh 46 = .ok (.iaload, 1) := by decide +kernel
theorem dX1_weigh_47 : decode cX1_weigh 47 = .ok (.iadd, 1) := by decide +kernel
theorem dX1_weigh_48 : decode cX1_weigh 48 = .ok (.istore_n 2, 1) := by decide +kernel
theorem dX1_weigh_49 : decode cX1_weigh 49 = .ok (.getstatic 129, 3) := by decide +kernel
theorem dX1_weigh_52 : decode cX1_weigh 52 = .ok (.iload_n 1, 1) := by decide +kernel
theorem dX1_weigh_53 : decode cX1_weigh 53 = .ok (.iaload, 1) := by decide +kernel
theorem dX1_weigh_54 : decode cX1_weigh 54 = .ok (.istore_n 3, 1) := by decide +kernel
theorem dX1_weigh_55 : decode cX1_weigh 55 = .ok (.getstatic 132, 3) := by decide +kernel
theorem dX1_weigh_58 : decode cX1_weigh 58 = .ok (.iload_n 1, 1) := by decide +kernel
theorem dX1_weigh_59 : decode cX1_weigh 59 = .ok (.iaload, 1) := by decide +kernel
theorem dX1_weigh_60 : decode cX1_weigh 60 = .ok (.istore 4, 2) := by decide +kernel
theorem dX1_weigh_62 : decode cX1_weigh 62 = .ok (.iload 4, 2) := by decide +kernel
theorem dX1_weigh_64 : decode cX1_weigh 64 = .ok (.invokestatic 62, 3) := by decide +kernel
theorem dX1_weigh_67 : decode cX1_weigh 67 = .ok (.ifCond .eq 9, 3) := by decide +kernel
theorem dX1_weigh_70 : decode cX1_weigh 70 = .ok (.iload_n 2, 1) := by decide +kernel
theorem dX1_weigh_71 : decode cX1_weigh 71 = .ok (.iconst 2, 1) := by decide +kernel
theorem dX1_weigh_72 : decode cX1_weigh 72 = .ok (.idiv, 1) := by decide +kernel
theorem dX1_weigh_73 : decode cX1_weigh 73 = .ok (.goto 4, 3) := by decide +kernel
theorem dX1_weigh_76 : decode cX1_weigh 76 = .ok (.iload_n 2, 1) := by decide +kernel
theorem dX1_weigh_77 : decode cX1_weigh 77 = .ok (.istore 5, 2) := by decide +kernel
theorem dX1_weigh_79 : decode cX1_weigh 79 = .ok (.iload_n 3, 1) := by decide +kernel
theorem dX1_weigh_80 : decode cX1_weigh 80 = .ok (.invokestatic 62, 3) := by decide +kernel
theorem dX1_weigh_83 : decode cX1_weigh 83 = .ok (.ifCond .eq 14, 3) := by decide +kernel
theorem dX1_weigh_86 : decode cX1_weigh 86 = .ok (.aload_n 0, 1) := by decide +kernel
theorem dX1_weigh_87 : decode cX1_weigh 87 = .ok (.getfield 15, 3) := by decide +kernel
theorem dX1_weigh_90 : decode cX1_weigh 90 = .ok (.iload_n 3, 1) := by decide +kernel
theorem dX1_weigh_91 : decode cX1_weigh 91 = .ok (.dup2, 1) := by decide +kernel
theorem dX1_weigh_92 : decode cX1_weigh 92 = .ok (.iaload, 1) := by decide +kernel
theorem dX1_weigh_93 : decode cX1_weigh 93 = .ok (.iload 5, 2) := by decide +kernel
theorem dX1_weigh_95 : decode cX1_weigh 95 = .ok (.iadd, 1) := by decide +kernel
theorem dX1_weigh_96 : decode cX1_weigh 96 = .ok (.iastore, 1) := by decide +kernel
theorem dX1_weigh_97 : decode cX1_weigh 97 = .ok (.iload 4, 2) := by decide +kernel
theorem dX1_weigh_99 : decode cX1_weigh 99 = .ok (.invokestatic 62, 3) := by decide +kernel
theorem dX1_weigh_102 : decode cX1_weigh 102 = .ok (.ifCond .eq 15, 3) := by decide +kernel
theorem dX1_weigh_105 : decode cX1_weigh 105 = .ok (.aload_n 0, 1) := by decide +kernel
theorem dX1_weigh_106 : decode cX1_weigh 106 = .ok (.getfield 15, 3) := by decide +kernel
theorem dX1_weigh_109 : decode cX1_weigh 109 = .ok (.iload 4, 2) := by decide +kernel
theorem dX1_weigh_111 : decode cX1_weigh 111 = .ok (.dup2, 1) := by decide +kernel
theorem dX1_weigh_112 : decode cX1_weigh 112 = .ok (.iaload, 1) := by decide +kernel
theorem dX1_weigh_113 : decode cX1_weigh 113 = .ok (.iload 5, 2) := by decide +kernel
theorem dX1_weigh_115 : decode cX1_weigh 115 = .ok (.iadd, 1) := by decide +kernel
theorem dX1_weigh_116 : decode cX1_weigh 116 = .ok (.iastore, 1) := by decide +kernel
theorem dX1_weigh_117 : decode cX1_weigh 117 = .ok (.iinc 1 (-1), 3) := by decide +kernel
theorem dX1_weigh_120 : decode cX1_weigh 120 = .ok (.goto (-96), 3) := by decide +kernel
theorem dX1_weigh_123 : decode cX1_weigh 123 = .ok (.return_, 1) := by decide +kernel
theorem dX2_init_0 : decode cX2_init 0 = .ok (.aload_n 0, 1) := by decide +kernel
theorem dX2_init_1 : decode cX2_init 1 = .ok (.invokespecial 1, 3) := by decide +kernel
theorem dX2_init_4 : decode cX2_init 4 = .ok (.aload_n 0, 1) := by decide +kernel
theorem dX2_init_5 : decode cX2_init 5 = .ok (.iconst 0, 1) := by decide +kernel
theorem dX2_init_6 : decode cX2_init 6 = .ok (.iload_n 1, 1) := by decide +kernel
theorem dX2_init_7 : decode cX2_init 7 = .ok (.invokestatic 7, 3) := by decide +kernel
theorem dX2_init_10 : decode cX2_init 10 = .ok (.putfield 13, 3) := by decide +kernel
theorem dX2_init_13 : decode cX2_init 13 = .ok (.aload_n 0, 1) := by decide +kernel
theorem dX2_init_14 : decode cX2_init 14 = .ok (.aload_n 0, 1) := by decide +kernel
theorem dX2_init_15 : decode cX2_init 15 = .ok (.getfield 13, 3) := by decide +kernel
theorem dX2_init_18 : decode cX2_init 18 = .ok (.newarray .int, 2) := by decide +kernel
theorem dX2_init_20 : decode cX2_init 20 = .ok (.putfield 19, 3) := by decide +kernel
theorem dX2_init_23 : decode cX2_init 23 = .ok (.aload_n 0, 1) := by decide +kernel
theorem dX2_init_24 : decode cX2_init 24 = .ok (.aload_n 0, 1) := by decide +kernel
theorem dX2_init_25 : decode cX2_init 25 = .ok (.getfield 13, 3) := by decide +kernel
theorem dX2_init_28 : decode cX2_init 28 = .ok (.newarray .int, 2) := by decide +kernel
theorem dX2_init_30 : decode cX2_init 30 = .ok (.putfield 23, 3) := by decide +kernel
theorem dX2_init_33 : decode cX2_init 33 = .ok (.aload_n 0, 1) := by decide +kernel
theorem dX2_init_34 : decode cX2_init 34 = .ok (.aload_n 0, 1) := by decide +kernel
theorem dX2_init_35 : decode cX2_init 35 = .ok (.getfield 13, 3) := by decide +kernel
theorem dX2_init_38 : decode cX2_init 38 = .ok (.newarray .int, 2) := by decide +kernel
theorem dX2_init_40 : decode cX2_init 40 = .ok (.putfield 26, 3) := by decide +kernel
theorem dX2_init_43 : decode cX2_init 43 = .ok (.return_, 1) := by decide +kernel
theorem dX2_store_0 : decode cX2_store 0 = .ok (.iload_n 1, 1) := by decide +kernel
theorem dX2_store_1 : decode cX2_store 1 = .ok (.ifCond .lt 11, 3) := by decide +kernel
theorem dX2_store_4 : decode cX2_store 4 = .ok (.iload_n 1, 1) := by decide +kernel
theorem dX2_store_5 : decode cX2_store 5 = .ok (.aload_n 0, 1) := by decide +kernel
theorem dX2_store_6 : decode cX2_store 6 = .ok (.getfield 13, 3) := by decide +kernel
theorem dX2_store_9 : decode cX2_store 9 = .ok (.if_icmp .lt 4, 3) := by decide +kernel
theorem dX2_store_12 : decode cX2_store 12 = .ok (.return_, 1) := by decide +kernel
theorem dX2_store_13 : decode cX2_store 13 = .ok (.aload_n 0, 1) := by decide +kernel
theorem dX2_store_14 : decode cX2_store 14 = .ok (.getfield 19, 3) := by decide +kernel
theorem dX2_store_17 : decode cX2_store 17 = .ok (.iload_n 1, 1) := by decide +kernel
theorem dX2_store_18 : decode cX2_store 18 = .ok (.aload_n 2, 1) := by decide +kernel
theorem dX2_store_19 : decode cX2_store 19 = .ok (.getfield 29, 3) := by decide +kernel
theorem dX2_store_22 : decode cX2_store 22 = .ok (.iastore, 1) := by decide +kernel
theorem dX2_store_23 : decode cX2_store 23 = .ok (.aload_n 0, 1) := by decide +kernel
theorem dX2_store_24 : decode cX2_store 24 = .ok (.getfield 23, 3) := by decide +kernel
theorem dX2_store_27 : decode cX2_store 27 = .ok (.iload_n 1, 1) := by decide +kernel
theorem dX2_store_28 : decode cX2_store 28 = .ok (.aload_n 2, 1) := by decide +kernel
theorem dX2_store_29 : decode cX2_store 29 = .ok (.getfield 33, 3) := by decide +kernel
theorem dX2_store_32 : decode cX2_store 32 = .ok (.iastore, 1) := by decide +kernel
theorem dX2_store_33 : decode cX2_store 33 = .ok (.aload_n 0, 1) := by decide +kernel
theorem dX2_store_34 : decode cX2_store 34 = .ok (.getfield 26, 3) := by decide +kernel
theorem dX2_store_37 : decode cX2_store 37 = .ok (.iload_n 1, 1) := by decide +kernel
theorem dX2_store_38 : decode cX2_store 38 = .ok (.aload_n 2, 1) := by decide +kernel
theorem dX2_store_39 : decode cX2_store 39 = .ok (.getfield 35, 3) := by decide +kernel
theorem dX2_store_42 : decode cX2_store 42 = .ok (.iastore, 1) := by decide +kernel
theorem dX2_store_43 : decode cX2_store 43 = .ok (.return_, 1) := by decide +kernel
theorem dX2_restore_0 : decode cX2_restore 0 = .ok (.iload_n 1, 1) := by decide +kernel
theorem dX2_restore_1 : decode cX2_restore 1 = .ok (.ifCond .lt 11, 3) := by decide +kernel
theorem dX2_restore_4 : decode cX2_restore 4 = .ok (.iload_n 1, 1) := by decide +kernel
theorem dX2_restore_5 : decode cX2_restore 5 = .ok (.aload_n 0, 1) := by decide +kernel
theorem dX2_restore_6 : decode cX2_restore 6 = .ok (.getfield 13, 3) := by decide +kernel
theorem dX2_restore_9 : decode cX2_restore 9 = .ok (.if_icmp .lt 4, 3) := by decide +kernel
theorem dX2_restore_12 : decode cX2_restore 12 = .ok (.return_, 1) := by decide +kernel
theorem dX2_restore_13 : decode cX2_restore 13 = .ok (.aload_n 2, 1) := by decide +kernel
theorem dX2_restore_14 : decode cX2_restore 14 = .ok (.aload_n 0, 1) := by decide +kernel
theorem dX2_restore_15 : decode cX2_restore 15 = .ok (.getfield 19, 3) := by decide +kernel
theorem dX2_restore_18 : decode cX2_restore 18 = .ok (.iload_n 1, 1) := by decide +kernel
theorem dX2_restore_19 : decode cX2_restore 19 = .ok (.iaload, 1) := by decide +kernel
theorem dX2_restore_20 : decode cX2_restore 20 = .ok (.putfield 29, 3) := by decide +kernel
theorem dX2_restore_23 : decode cX2_restore 23 = .ok (.aload_n 2, 1) := by decide +kernel
theorem dX2_restore_24 : decode cX2_restore 24 = .ok (.aload_n 0, 1) := by decide +kernel
theorem dX2_restore_25 : decode cX2_restore 25 = .ok (.getfield 23, 3) := by decide +kernel
theorem dX2_restore_28 : decode cX2_restore 28 = .ok (.iload_n 1, 1) := by decide +kernel
theorem dX2_restore_29 : decode cX2_restore 29 = .ok (.iaload, 1) := by decide +kernel
theorem dX2_restore_30 : decode cX2_restore 30 = .ok (.putfield 33, 3) := by decide +kernel
theorem dX2_restore_33 : decode cX2_restore 33 = .ok (.aload_n 2, 1) := by decide +kernel
theorem dX2_restore_34 : decode cX2_restore 34 = .ok (.aload_n 0, 1) := by decide +kernel
theorem dX2_restore_35 : decode cX2_restore 35 = .ok (.getfield 26, 3) := by decide +kernel
theorem dX2_restore_38 : decode cX2_restore 38 = .ok (.iload_n 1, 1) := by decide +kernel
theorem dX2_restore_39 : decode cX2_restore 39 = .ok (.iaload, 1) := by decide +kernel
theorem dX2_restore_40 : decode cX2_restore 40 = .ok (.putfield 35, 3) := by decide +kernel
theorem dX2_restore_43 : decode cX2_restore 43 = .ok (.return_, 1) := by decide +kernel
theorem dX2_forgetFirst_0 : decode cX2_forgetFirst 0 = .ok (.iconst 1, 1) := by decide +kernel
theorem dX2_forgetFirst_1 : decode cX2_forgetFirst 1 = .ok (.istore_n 1, 1) := by decide +kernel
theorem dX2_forgetFirst_2 : decode cX2_forgetFirst 2 = .ok (.iload_n 1, 1) := by decide +kernel
theorem dX2_forgetFirst_3 : decode cX2_forgetFirst 3 = .ok (.aload_n 0, 1) := by decide +kernel
theorem dX2_forgetFirst_4 : decode cX2_forgetFirst 4 = .ok (.getfield 13, 3) := by decide +kernel
theorem dX2_forgetFirst_7 : decode cX2_forgetFirst 7 = .ok (.if_icmp .ge 51, 3) := by decide +kernel
theorem dX2_forgetFirst_10 : decode cX2_forgetFirst 10 = .ok (.aload_n 0, 1) := by decide +kernel
theorem dX2_forgetFirst_11 : decode cX2_forgetFirst 11 = .ok (.getfield 19, 3) := by decide +kernel
theorem dX2_forgetFirst_14 : decode cX2_forgetFirst 14 = .ok (.iload_n 1, 1) := by decide +kernel
theorem dX2_forgetFirst_15 : decode cX2_forgetFirst 15 = .ok (.iconst 1, 1) := by decide +kernel
theorem dX2_forgetFirst_16 : decode cX2_forgetFirst 16 = .ok (.isub, 1) := by decide +kernel
theorem dX2_forgetFirst_17 : decode cX2_forgetFirst 17 = .ok (.aload_n 0, 1) := by decide +kernel
theorem dX2_forgetFirst_18 : decode cX2_forgetFirst 18 = .ok (.getfield 19, 3) := by decide +kernel
theorem dX2_forgetFirst_21 : decode cX2_forgetFirst 21 = .ok (.iload_n 1, 1) := by decide +kernel
theorem dX2_forgetFirst_22 : decode cX2_forgetFirst 22 = .ok (.iaload, 1) := by decide +kernel
theorem dX2_forgetFirst_23 : decode cX2_forgetFirst 23 = .ok (.iastore, 1) := by decide +kernel
theorem dX2_forgetFirst_24 : decode cX2_forgetFirst 24 = .ok (.aload_n 0, 1) := by decide +kernel
theorem dX2_forgetFirst_25 : decode cX2_forgetFirst 25 = .ok (.getfield 23, 3) := by decide +kernel
theorem dX2_forgetFirst_28 : decode cX2_forgetFirst 28 = .ok (.iload_n 1, 1) := by decide +kernel
theorem dX2_forgetFirst_29 : decode cX2_forgetFirst 29 = .ok (.iconst 1, 1) := by decide +kernel
theorem dX2_forgetFirst_30 : decode cX2_forgetFirst 30 = .ok (.isub, 1) := by decide +kernel
theorem dX2_forgetFirst_31 : decode cX2_forgetFirst 31 = .ok (.aload_n 0, 1) := by decide +kernel
theorem dX2_forgetFirst_32 : decode cX2_forgetFirst 32 = .ok (.getfield 23, 3) := by decide +kernel
theorem dX2_forgetFirst_35 : decode cX2_forgetFirst 35 = .ok (.iload_n 1, 1) := by decide +kernel
theorem dX2_forgetFirst_36 : decode cX2_forgetFirst 36 = .ok (.iaload, 1) := by decide +kernel
theorem dX2_forgetFirst_37 : decode cX2_forgetFirst 37 = .ok (.iastore, 1) := by decide +kernel
theorem dX2_forgetFirst_38 : decode cX2_forgetFirst 38 = .ok (.aload_n 0, 1) := by decide +kernel
theorem dX2_forgetFirst_39 : decode cX2_forgetFirst 39 = .ok (.getfield 26, 3) := by decide +kernel
theorem dX2_forgetFirst_42 : decode cX2_forgetFirst 42 = .ok (.iload_n 1, 1) := by decide +kernel
theorem dX2_forgetFirst_43 : decode cX2_forgetFirst 43 = .ok (.iconst 1, 1) := by decide +kernel
theorem dX2_forgetFirst_44 : decode cX2_forgetFirst 44 = .ok (.isub, 1) := by decide +kernel
theorem dX2_forgetFirst_45 : decode cX2_forgetFirst 45 = .ok (.aload_n 0, 1) := by decide +kernel
theorem dX2_forgetFirst_46 : decode cX2_forgetFirst 46 = .ok (.getfield 26, 3) := by decide +kernel
theorem dX2_forgetFirst_49 : decode cX2_forgetFirst 49 = .ok (.iload_n 1, 1) := by decide +kernel
theorem dX2_forgetFirst_50 : decode cX2_forgetFirst 50 = .ok (.iaload, 1) := by decide +kernel
theorem dX2_forgetFirst_51 : decode cX2_forgetFirst 51 = .ok (.iastore, 1) := by decide +kernel
theorem dX2_forgetFirst_52 : decode cX2_forgetFirst 52 = .ok (.iinc 1 1, 3) := by decide +kernel
theorem dX2_forgetFirst_55 : decode cX2_forgetFirst 55 = .ok (.goto (-53), 3) := by decide +kernel
theorem dX2_forgetFirst_58 : decode cX2_forgetFirst 58 = .ok (.return_, 1) := by decide +kernel
theorem dX3_init_0 : decode cX3_init 0 = .ok (.aload_n 0, 1) := by decide +kernel
theorem dX3_init_1 : decode cX3_init 1 = .ok (.invokespecial 3, 3) := by decide +kernel
theorem dX3_init_4 : decode cX3_init 4 = .ok (.aload_n 0, 1) := by decide +kernel
theorem dX3_init_5 : decode cX3_init 5 = .ok (.bipush 56, 2) := by decide +kernel
theorem dX3_init_7 : decode cX3_init 7 = .ok (.newarray .int, 2) := by decide +kernel
theorem dX3_init_9 : decode cX3_init 9 = .ok (.putfield 9, 3) := by decide +kernel
theorem dX3_init_12 : decode cX3_init 12 = .ok (.return_, 1) := by decide +kernel
theorem dX3_append_0 : decode cX3_append 0 = .ok (.aload_n 0, 1) := by decide +kernel
theorem dX3_append_1 : decode cX3_append 1 = .ok (.getfield 15, 3) := by decide +kernel
theorem dX3_append_4 : decode cX3_append 4 = .ok (.ifCond .lt 12, 3) := by decide +kernel
theorem dX3_append_7 : decode cX3_append 7 = .ok (.aload_n 0, 1) := by decide +kernel
theorem dX3_append_8 : decode cX3_append 8 = .ok (.getfield 15, 3) := by decide +kernel
theorem dX3_append_11 : decode cX3_append 11 = .ok (.bipush 56, 2) := by decide +kernel
theorem dX3_append_13 : decode cX3_append 13 = .ok (.if_icmp .lt 4, 3) := by decide +kernel
theorem dX3_append_16 : decode cX3_append 16 = .ok (.return_, 1) := by decide +kernel
theorem dX3_append_17 : decode cX3_append 17 = .ok (.aload_n 0, 1) := by decide +kernel
theorem dX3_append_18 : decode cX3_append 18 = .ok (.getfield 9, 3) := by decide +kernel
theorem dX3_append_21 : decode cX3_append 21 = .ok (.aload_n 0, 1) := by decide +kernel
theorem dX3_append_22 : decode cX3_append 22 = .ok (.getfield 15, 3) := by decide +kernel
theorem dX3_append_25 : decode cX3_append 25 = .ok (.iload_n 1, 1) := by decide +kernel
theorem dX3_append_26 : decode cX3_append 26 = .ok (.iastore, 1) := by decide +kernel
theorem dX3_append_27 : decode cX3_append 27 = .ok (.aload_n 0, 1) := by decide +kernel
theorem dX3_append_28 : decode cX3_append 28 = .ok (.dup, 1) := by decide +kernel
theorem dX3_append_29 : decode cX3_append 29 = .ok (.getfield 15, 3) := by decide +kernel
theorem dX3_append_32 : decode cX3_append 32 = .ok (.iconst 1, 1) := by decide +kernel
theorem dX3_append_33 : decode cX3_append 33 = .ok (.iadd, 1) := by decide +kernel
theorem dX3_append_34 : decode cX3_append 34 = .ok (.putfield 15, 3) := by decide +kernel
theorem dX3_append_37 : decode cX3_append 37 = .ok (.return_, 1) := by decide +kernel
theorem dX3_readInto_0 : decode cX3_readInto 0 = .ok (.aload_n 1, 1) := by decide +kernel
theorem dX3_readInto_1 : decode cX3_readInto 1 = .ok (.invokevirtual 19, 3) := by decide +kernel
theorem dX3_readInto_4 : decode cX3_readInto 4 = .ok (.iconst 0, 1) := by decide +kernel
theorem dX3_readInto_5 : decode cX3_readInto 5 = .ok (.istore_n 2, 1) := by decide +kernel
theorem dX3_readInto_6 : decode cX3_readInto 6 = .ok (.iload_n 2, 1) := by decide +kernel
theorem dX3_readInto_7 : decode cX3_readInto 7 = .ok (.aload_n 0, 1) := by decide +kernel
theorem dX3_readInto_8 : decode cX3_readInto 8 = .ok (.getfield 15, 3) := by decide +kernel
theorem dX3_readInto_11 : decode cX3_readInto 11 = .ok (.if_icmp .ge 32, 3) := by decide +kernel
theorem dX3_readInto_14 : decode cX3_readInto 14 = .ok (.iload_n 2, 1) := by decide +kernel
theorem dX3_readInto_15 : decode cX3_readInto 15 = .ok (.bipush 56, 2) := by decide +kernel
theorem dX3_readInto_17 : decode cX3_readInto 17 = .ok (.if_icmp .ge 26, 3) := by decide +kernel
theorem dX3_readInto_20 : decode cX3_readInto 20 = .ok (.aload_n 0, 1) := by decide +kernel
theorem dX3_readInto_21 : decode cX3_readInto 21 = .ok (.aload_n 1, 1) := by decide +kernel
theorem dX3_readInto_22 : decode cX3_readInto 22 = .ok (.iload_n 2, 1) := by decide +kernel
theorem dX3_readInto_23 : decode cX3_readInto 23 = .ok (.aload_n 0, 1) := by decide +kernel
theorem dX3_readInto_24 : decode cX3_readInto 24 = .ok (.getfield 9, 3) := by decide +kernel
theorem dX3_readInto_27 : decode cX3_readInto 27 = .ok (.iload_n 2, 1) := by decide +kernel
theorem dX3_readInto_28 : decode cX3_readInto 28 = .ok (.iaload, 1) := by decide +kernel
theorem dX3_readInto_29 : decode cX3_readInto 29 = .ok (.invokevirtual 24, 3) := by decide +kernel
theorem dX3_readInto_32 : decode cX3_readInto 32 = .ok (.ifCond .ne 5, 3) := by decide +kernel
theorem dX3_readInto_35 : decode cX3_readInto 35 = .ok (.iload_n 2, 1) := by decide +kernel
theorem dX3_readInto_36 : decode cX3_readInto 36 = .ok (.ireturn, 1) := by decide +kernel
theorem dX3_readInto_37 : decode cX3_readInto 37 = .ok (.iinc 2 1, 3) := by decide +kernel
theorem dX3_readInto_40 : decode cX3_readInto 40 = .ok (.goto (-34), 3) := by decide +kernel
theorem dX3_readInto_43 : decode cX3_readInto 43 = .ok (.aload_n 0, 1) := by decide +kernel
theorem dX3_readInto_44 : decode cX3_readInto 44 = .ok (.getfield 15, 3) := by decide +kernel
theorem dX3_readInto_47 : decode cX3_readInto 47 = .ok (.iconst 5, 1) := by decide +kernel
theorem dX3_readInto_48 : decode cX3_readInto 48 = .ok (.if_icmp .lt 18, 3) := by decide +kernel
theorem dX3_readInto_51 : decode cX3_readInto 51 = .ok (.aload_n 0, 1) := by decide +kernel
theorem dX3_readInto_52 : decode cX3_readInto 52 = .ok (.getfield 15, 3) := by decide +kernel
theorem dX3_readInto_55 : decode cX3_readInto 55 = .ok (.iconst 5, 1) := by decide +kernel
theorem dX3_readInto_56 : decode cX3_readInto 56 = .ok (.isub, 1) := by decide +kernel
theorem dX3_readInto_57 : decode cX3_readInto 57 = .ok (.iconst 3, 1) := by decide +kernel
theorem dX3_readInto_58 : decode cX3_readInto 58 = .ok (.irem, 1) := by decide +kernel
theorem dX3_readInto_59 : decode cX3_readInto 59 = .ok (.ifCond .ne 7, 3) := by decide +kernel
theorem dX3_readInto_62 : decode cX3_readInto 62 = .ok (.iconst 1, 1) := by decide +kernel
theorem dX3_readInto_63 : decode cX3_readInto 63 = .ok (.goto 4, 3) := by decide +kernel
theorem dX3_readInto_66 : decode cX3_readInto 66 = .ok (.iconst 0, 1) := by decide +kernel
theorem dX3_readInto_67 : decode cX3_readInto 67 = .ok (.istore_n 2, 1) := by decide +kernel
theorem dX3_readInto_68 : decode cX3_readInto 68 = .ok (.iload_n 2, 1) := by decide +kernel
theorem dX3_readInto_69 : decode cX3_readInto 69 = .ok (.ifCond .eq 8, 3) := by decide +kernel
theorem dX3_readInto_72 : decode cX3_readInto 72 = .ok (.bipush (-9), 2) := by decide +kernel
theorem dX3_readInto_74 : decode cX3_readInto 74 = .ok (.goto 7, 3) := by decide +kernel
theorem dX3_readInto_77 : decode cX3_readInto 77 = .ok (.aload_n 0, 1) := by decide +kernel
theorem dX3_readInto_78 : decode cX3_readInto 78 = .ok (.getfield 15, 3) := by decide +kernel
theorem dX3_readInto_81 : decode cX3_readInto 81 = .ok (.ireturn, 1) := by decide +kernel
theorem dX3_readLetter_0 : decode cX3_readLetter 0 = .ok (.iload_n 2, 1) := by decide +kernel
theorem dX3_readLetter_1 : decode cX3_readLetter 1 = .ok (.ifCond .ne 15, 3) := by decide +kernel
theorem dX3_readLetter_4 : decode cX3_readLetter 4 = .ok (.iload_n 3, 1) := by decide +kernel
theorem dX3_readLetter_5 : decode cX3_readLetter 5 = .ok (.bipush 67, 2) := by decide +kernel
theorem dX3_readLetter_7 : decode cX3_readLetter 7 = .ok (.if_icmp .ne 7, 3) := by decide +kernel
theorem dX3_readLetter_10 : decode cX3_readLetter 10 = .ok (.iconst 1, 1) := by decide +kernel
theorem dX3_readLetter_11 : decode cX3_readLetter 11 = .ok (.goto 4, 3) := by decide +kernel
theorem dX3_readLetter_14 : decode cX3_readLetter 14 = .ok (.iconst 0, 1) := by decide +kernel
theorem dX3_readLetter_15 : decode cX3_readLetter 15 = .ok (.ireturn, 1) := by decide +kernel
theorem dX3_readLetter_16 : decode cX3_readLetter 16 = .ok (.iload_n 2, 1) := by decide +kernel
theorem dX3_readLetter_17 : decode cX3_readLetter 17 = .ok (.iconst 5, 1) := by decide +kernel
theorem dX3_readLetter_18 : decode cX3_readLetter 18 = .ok (.if_icmp .ge 15, 3) := by decide +kernel
theorem dX3_readLetter_21 : decode cX3_readLetter 21 = .ok (.aload_n 1, 1) := by decide +kernel
theorem dX3_readLetter_22 : decode cX3_readLetter 22 = .ok (.iload_n 2, 1) := by decide +kernel
theorem dX3_readLetter_23 : decode cX3_readLetter 23 = .ok (.iconst 1, 1) := by decide +kernel
theorem dX3_readLetter_24 : decode cX3_readLetter 24 = .ok (.isub, 1) := by decide +kernel
theorem dX3_readLetter_25 : decode cX3_readLetter 25 = .ok (.iload_n 3, 1) := by decide +kernel
theorem dX3_readLetter_26 : decode cX3_readLetter 26 = .ok (.bipush 48, 2) := by decide +kernel
theorem dX3_readLetter_28 : decode cX3_readLetter 28 = .ok (.isub, 1) := by decide +kernel
theorem dX3_readLetter_29 : decode cX3_readLetter 29 = .ok (.invokestatic 28, 3) := by decide +kernel
theorem dX3_readLetter_32 : decode cX3_readLetter 32 = .ok (.ireturn, 1) := by decide +kernel
theorem dX3_readLetter_33 : decode cX3_readLetter 33 = .ok (.iload_n 2, 1) := by decide +kernel
theorem dX3_readLetter_34 : decode cX3_readLetter 34 = .ok (.iconst 5, 1) := by decide +kernel
theorem dX3_readLetter_35 : decode cX3_readLetter 35 = .ok (.isub, 1) := by decide +kernel
theorem dX3_readLetter_36 : decode cX3_readLetter 36 = .ok (.iconst 3, 1) := by decide +kernel
theorem dX3_readLetter_37 : decode cX3_readLetter 37 = .ok (.irem, 1) := by decide +kernel
theorem dX3_readLetter_38 : decode cX3_readLetter 38 = .ok (.lookupswitch 58 #[(0, 26), (1, 45)], 26) := by decide +kernel
theorem dX3_readLetter_64 : decode cX3_readLetter 64 = .ok (.iload_n 3, 1) := by decide +kernel
theorem dX3_readLetter_65 : decode cX3_readLetter 65 = .ok (.bipush 80, 2) := by decide +kernel
theorem dX3_readLetter_67 : decode cX3_readLetter 67 = .ok (.if_icmp .ne 14, 3) := by decide +kernel
theorem dX3_readLetter_70 : decode cX3_readLetter 70 = .ok (.aload_n 1, 1) := by decide +kernel
theorem dX3_readLetter_71 : decode cX3_readLetter 71 = .ok (.invokestatic 31, 3) := by decide +kernel
theorem dX3_readLetter_74 : decode cX3_readLetter 74 = .ok (.ifCond .eq 7, 3) := by decide +kernel
theorem dX3_readLetter_77 : decode cX3_readLetter 77 = .ok (.iconst 1, 1) := by decide +kernel
theorem dX3_readLetter_78 : decode cX3_readLetter 78 = .ok (.goto 4, 3) := by decide +kernel
theorem dX3_readLetter_81 : decode cX3_readLetter 81 = .ok (.iconst 0, 1) := by decide +kernel
theorem dX3_readLetter_82 : decode cX3_readLetter 82 = .ok (.ireturn, 1) := by decide +kernel
theorem dX3_readLetter_83 : decode cX3_readLetter 83 = .ok (.aload_n 1, 1) := by decide +kernel
theorem dX3_readLetter_84 : decode cX3_readLetter 84 = .ok (.iload_n 3, 1) := by decide +kernel
theorem dX3_readLetter_85 : decode cX3_readLetter 85 = .ok (.bipush 97, 2) := by decide +kernel
theorem dX3_readLetter_87 : decode cX3_readLetter 87 = .ok (.isub, 1) := by decide +kernel
theorem dX3_readLetter_88 : decode cX3_readLetter 88 = .ok (.aload_n 1, 1) := by decide +kernel
theorem dX3_readLetter_89 : decode cX3_readLetter 89 = .ok (.invokevirtual 35, 3) := by decide +kernel
theorem dX3_readLetter_92 : decode cX3_readLetter 92 = .ok (.invokestatic 39, 3) := by decide +kernel
theorem dX3_readLetter_95 : decode cX3_readLetter 95 = .ok (.ireturn, 1) := by decide +kernel
theorem dX3_readLetter_96 : decode cX3_readLetter 96 = .ok (.aload_n 1, 1) := by decide +kernel
theorem dX3_readLetter_97 : decode cX3_readLetter 97 = .ok (.aload_n 0, 1) := by decide +kernel
theorem dX3_readLetter_98 : decode cX3_readLetter 98 = .ok (.getfield 9, 3) := by decide +kernel
theorem dX3_readLetter_101 : decode cX3_readLetter 101 = .ok (.iload_n 2, 1) := by decide +kernel
theorem dX3_readLetter_102 : decode cX3_readLetter 102 = .ok (.iconst 1, 1) := by decide +kernel
theorem dX3_readLetter_103 : decode cX3_readLetter 103 = .ok (.isub, 1) := by decide +kernel
theorem dX3_readLetter_104 : decode cX3_readLetter 104 = .ok (.iaload, 1) := by decide +kernel
theorem dX3_readLetter_105 : decode cX3_readLetter 105 = .ok (.bipush 97, 2) := by decide +kernel
theorem dX3_readLetter_107 : decode cX3_readLetter 107 = .ok (.isub, 1) := by decide +kernel
theorem dX3_readLetter_108 : decode cX3_readLetter 108 = .ok (.iload_n 3, 1) := by decide +kernel
theorem dX3_readLetter_109 : decode cX3_readLetter 109 = .ok (.bipush 48, 2) := by decide +kernel
theorem dX3_readLetter_111 : decode cX3_readLetter 111 = .ok (.isub, 1) := by decide +kernel
theorem dX3_readLetter_112 : decode cX3_readLetter 112 = .ok (.invokestatic 42, 3) := by decide +kernel
theorem dX3_readLetter_115 : decode cX3_readLetter 115 = .ok (.ireturn, 1) := by decide +kernel
theorem dX3_readFigure_0 : decode cX3_readFigure 0 = .ok (.iload_n 2, 1) := by decide +kernel
theorem dX3_readFigure_1 : decode cX3_readFigure 1 = .ok (.ifCond .lt 16, 3) := by decide +kernel
theorem dX3_readFigure_4 : decode cX3_readFigure 4 = .ok (.iload_n 2, 1) := by decide +kernel
theorem dX3_readFigure_5 : decode cX3_readFigure 5 = .ok (.bipush 9, 2) := by decide +kernel
theorem dX3_readFigure_7 : decode cX3_readFigure 7 = .ok (.if_icmp .gt 10, 3) := by decide +kernel
theorem dX3_readFigure_10 : decode cX3_readFigure 10 = .ok (.iload_n 1, 1) := by decide +kernel
theorem dX3_readFigure_11 : decode cX3_readFigure 11 = .ok (.invokestatic 45, 3) := by decide +kernel
theorem dX3_readFigure_14 : decode cX3_readFigure 14 = .ok (.ifCond .ne 5, 3) := by decide +kernel
theorem dX3_readFigure_17 : decode cX3_readFigure 17 = .ok (.iconst 0, 1) := by decide +kernel
theorem dX3_readFigure_18 : decode cX3_readFigure 18 = .ok (.ireturn, 1) := by decide +kernel
theorem dX3_readFigure_19 : decode cX3_readFigure 19 = .ok (.aload_n 0, 1) := by decide +kernel
theorem dX3_readFigure_20 : decode cX3_readFigure 20 = .ok (.getfield 49, 3) := by decide +kernel
theorem dX3_readFigure_23 : decode cX3_readFigure 23 = .ok (.iload_n 1, 1) := by decide +kernel
theorem dX3_readFigure_24 : decode cX3_readFigure 24 = .ok (.iconst 3, 1) := by decide +kernel
theorem dX3_readFigure_25 : decode cX3_readFigure 25 = .ok (.iload_n 2, 1) := by decide +kernel
theorem dX3_readFigure_26 : decode cX3_readFigure 26 = .ok (.imul, 1) := by decide +kernel
theorem dX3_readFigure_27 : decode cX3_readFigure 27 = .ok (.iastore, 1) := by decide +kernel
theorem dX3_readFigure_28 : decode cX3_readFigure 28 = .ok (.iconst 1, 1) := by decide +kernel
theorem dX3_readFigure_29 : decode cX3_readFigure 29 = .ok (.ireturn, 1) := by decide +kernel
theorem dX3_canAnyBeTold_0 : decode cX3_canAnyBeTold 0 = .ok (.aload_n 0, 1) := by decide +kernel
theorem dX3_canAnyBeTold_1 : decode cX3_canAnyBeTold 1 = .ok (.invokevirtual 35, 3) := by decide +kernel
theorem dX3_canAnyBeTold_4 : decode cX3_canAnyBeTold 4 = .ok (.istore_n 1, 1) := by decide +kernel
theorem dX3_canAnyBeTold_5 : decode cX3_canAnyBeTold 5 = .ok (.iconst 0, 1) := by decide +kernel
theorem dX3_canAnyBeTold_6 : decode cX3_canAnyBeTold 6 = .ok (.istore_n 2, 1) := by decide +kernel
theorem dX3_canAnyBeTold_7 : decode cX3_canAnyBeTold 7 = .ok (.iload_n 2, 1) := by decide +kernel
theorem dX3_canAnyBeTold_8 : decode cX3_canAnyBeTold 8 = .ok (.bipush 16, 2) := by decide +kernel
theorem dX3_canAnyBeTold_10 : decode cX3_canAnyBeTold 10 = .ok (.if_icmp .ge 20, 3) := by decide +kernel
theorem dX3_canAnyBeTold_13 : decode cX3_canAnyBeTold 13 = .ok (.aload_n 0, 1) := by decide +kernel
theorem dX3_canAnyBeTold_14 : decode cX3_canAnyBeTold 14 = .ok (.iload_n 2, 1) := by decide +kernel
theorem dX3_canAnyBeTold_15 : decode cX3_canAnyBeTold 15 = .ok (.iload_n 1, 1) := by decide +kernel
theorem dX3_canAnyBeTold_16 : decode cX3_canAnyBeTold 16 = .ok (.invokestatic 39, 3) := by decide +kernel
theorem dX3_canAnyBeTold_19 : decode cX3_canAnyBeTold 19 = .ok (.ifCond .eq 5, 3) := by decide +kernel
theorem dX3_canAnyBeTold_22 : decode cX3_canAnyBeTold 22 = .ok (.iconst 1, 1) := by decide +kernel
theorem dX3_canAnyBeTold_23 : decode cX3_canAnyBeTold 23 = .ok (.ireturn, 1) := by decide +kernel
theorem dX3_canAnyBeTold_24 : decode cX3_canAnyBeTold 24 = .ok (.iinc 2 1, 3) := by decide +kernel
theorem dX3_canAnyBeTold_27 : decode cX3_canAnyBeTold 27 = .ok (.goto (-20), 3) := by decide +kernel
theorem dX3_canAnyBeTold_30 : decode cX3_canAnyBeTold 30 = .ok (.iconst 0, 1) := by decide +kernel
theorem dX3_canAnyBeTold_31 : decode cX3_canAnyBeTold 31 = .ok (.ireturn, 1) := by decide +kernel
theorem dX3_canBeTold_0 : decode cX3_canBeTold 0 = .ok (.aload_n 0, 1) := by decide +kernel
theorem dX3_canBeTold_1 : decode cX3_canBeTold 1 = .ok (.iload_n 1, 1) := by decide +kernel
theorem dX3_canBeTold_2 : decode cX3_canBeTold 2 = .ok (.invokevirtual 52, 3) := by decide +kernel
theorem dX3_canBeTold_5 : decode cX3_canBeTold 5 = .ok (.ifCond .eq 15, 3) := by decide +kernel
theorem dX3_canBeTold_8 : decode cX3_canBeTold 8 = .ok (.iload_n 1, 1) := by decide +kernel
theorem dX3_canBeTold_9 : decode cX3_canBeTold 9 = .ok (.invokestatic 55, 3) := by decide +kernel
theorem dX3_canBeTold_12 : decode cX3_canBeTold 12 = .ok (.iload_n 2, 1) := by decide +kernel
theorem dX3_canBeTold_13 : decode cX3_canBeTold 13 = .ok (.if_icmp .gt 7, 3) := by decide +kernel
theorem dX3_canBeTold_16 : decode cX3_canBeTold 16 = .ok (.iconst 1, 1) := by decide +kernel
theorem dX3_canBeTold_17 : decode cX3_canBeTold 17 = .ok (.goto 4, 3) := by decide +kernel
theorem dX3_canBeTold_20 : decode cX3_canBeTold 20 = .ok (.iconst 0, 1) := by decide +kernel
theorem dX3_canBeTold_21 : decode cX3_canBeTold 21 = .ok (.ireturn, 1) := by decide +kernel
theorem dX3_readKind_0 : decode cX3_readKind 0 = .ok (.aload_n 0, 1) := by decide +kernel
theorem dX3_readKind_1 : decode cX3_readKind 1 = .ok (.iload_n 1, 1) := by decide +kernel
theorem dX3_readKind_2 : decode cX3_readKind 2 = .ok (.iload_n 2, 1) := by decide +kernel
theorem dX3_readKind_3 : decode cX3_readKind 3 = .ok (.invokevirtual 59, 3) := by decide +kernel
theorem dX3_readKind_6 : decode cX3_readKind 6 = .ok (.ifCond .ne 5, 3) := by decide +kernel
theorem dX3_readKind_9 : decode cX3_readKind 9 = .ok (.iconst 0, 1) := by decide +kernel
theorem dX3_readKind_10 : decode cX3_readKind 10 = .ok (.ireturn, 1) := by decide +kernel
theorem dX3_readKind_11 : decode cX3_readKind 11 = .ok (.aload_n 0, 1) := by decide +kernel
theorem dX3_readKind_12 : decode cX3_readKind 12 = .ok (.iload_n 1, 1) := by decide +kernel
theorem dX3_readKind_13 : decode cX3_readKind 13 = .ok (.iload_n 2, 1) := by decide +kernel
theorem dX3_readKind_14 : decode cX3_readKind 14 = .ok (.invokevirtual 63, 3) := by decide +kernel
theorem dX3_readKind_17 : decode cX3_readKind 17 = .ok (.iconst 1, 1) := by decide +kernel
theorem dX3_readKind_18 : decode cX3_readKind 18 = .ok (.ireturn, 1) := by decide +kernel
theorem dX4_init_0 : decode cX4_init 0 = .ok (.aload_n 0, 1) := by decide +kernel
theorem dX4_init_1 : decode cX4_init 1 = .ok (.invokespecial 1, 3) := by decide +kernel
theorem dX4_init_4 : decode cX4_init 4 = .ok (.aload_n 0, 1) := by decide +kernel
theorem dX4_init_5 : decode cX4_init 5 = .ok (.new 7, 3) := by decide +kernel
theorem dX4_init_8 : decode cX4_init 8 = .ok (.dup, 1) := by decide +kernel
theorem dX4_init_9 : decode cX4_init 9 = .ok (.invokespecial 9, 3) := by decide +kernel
theorem dX4_init_12 : decode cX4_init 12 = .ok (.putfield 10, 3) := by decide +kernel
theorem dX4_init_15 : decode cX4_init 15 = .ok (.aload_n 0, 1) := by decide +kernel
theorem dX4_init_16 : decode cX4_init 16 = .ok (.new 16, 3) := by decide +kernel
theorem dX4_init_19 : decode cX4_init 19 = .ok (.dup, 1) := by decide +kernel
theorem dX4_init_20 : decode cX4_init 20 = .ok (.invokespecial 18, 3) := by decide +kernel
theorem dX4_init_23 : decode cX4_init 23 = .ok (.putfield 19, 3) := by decide +kernel
theorem dX4_init_26 : decode cX4_init 26 = .ok (.aload_n 0, 1) := by decide +kernel
theorem dX4_init_27 : decode cX4_init 27 = .ok (.new 16, 3) := by decide +kernel
theorem dX4_init_30 : decode cX4_init 30 = .ok (.dup, 1) := by decide +kernel
theorem dX4_init_31 : decode cX4_init 31 = .ok (.invokespecial 18, 3) := by decide +kernel
theorem dX4_init_34 : decode cX4_init 34 = .ok (.putfield 23, 3) := by decide +kernel
theorem dX4_init_37 : decode cX4_init 37 = .ok (.aload_n 0, 1) := by decide +kernel
theorem dX4_init_38 : decode cX4_init 38 = .ok (.new 26, 3) := by decide +kernel
theorem dX4_init_41 : decode cX4_init 41 = .ok (.dup, 1) := by decide +kernel
theorem dX4_init_42 : decode cX4_init 42 = .ok (.bipush 14, 2) := by decide +kernel
theorem dX4_init_44 : decode cX4_init 44 = .ok (.invokespecial 28, 3) := by decide +kernel
theorem dX4_init_47 : decode cX4_init 47 = .ok (.putfield 31, 3) := by decide +kernel
theorem dX4_init_50 : decode cX4_init 50 = .ok (.aload_n 0, 1) := by decide +kernel
theorem dX4_init_51 : decode cX4_init 51 = .ok (.new 26, 3) := by decide +kernel
theorem dX4_init_54 : decode cX4_init 54 = .ok (.dup, 1) := by decide +kernel
theorem dX4_init_55 : decode cX4_init 55 = .ok (.iconst 2, 1) := by decide +kernel
theorem dX4_init_56 : decode cX4_init 56 = .ok (.invokespecial 28, 3) := by decide +kernel
theorem dX4_init_59 : decode cX4_init 59 = .ok (.putfield 35, 3) := by decide +kernel
theorem dX4_init_62 : decode cX4_init 62 = .ok (.aload_n 0, 1) := by decide +kernel
theorem dX4_init_63 : decode cX4_init 63 = .ok (.new 38, 3) := by decide +kernel
theorem dX4_init_66 : decode cX4_init 66 = .ok (.dup, 1) := by decide +kernel
theorem dX4_init_67 : decode cX4_init 67 = .ok (.invokespecial 40, 3) := by decide +kernel
theorem dX4_init_70 : decode cX4_init 70 = .ok (.putfield 41, 3) := by decide +kernel
theorem dX4_init_73 : decode cX4_init 73 = .ok (.aload_n 0, 1) := by decide +kernel
theorem dX4_init_74 : decode cX4_init 74 = .ok (.bipush 15, 2) := by decide +kernel
theorem dX4_init_76 : decode cX4_init 76 = .ok (.putfield 45, 3) := by decide +kernel
theorem dX4_init_79 : decode cX4_init 79 = .ok (.aload_n 0, 1) := by decide +kernel
theorem dX4_init_80 : decode cX4_init 80 = .ok (.bipush 15, 2) := by decide +kernel
theorem dX4_init_82 : decode cX4_init 82 = .ok (.putfield 49, 3) := by decide +kernel
theorem dX4_init_85 : decode cX4_init 85 = .ok (.return_, 1) := by decide +kernel
theorem dX4_write_0 : decode cX4_write 0 = .ok (.iload_n 1, 1) := by decide +kernel
theorem dX4_write_1 : decode cX4_write 1 = .ok (.ifCond .lt 10, 3) := by decide +kernel
theorem dX4_write_4 : decode cX4_write 4 = .ok (.iload_n 1, 1) := by decide +kernel
theorem dX4_write_5 : decode cX4_write 5 = .ok (.sipush 255, 3) := by decide +kernel
theorem dX4_write_8 : decode cX4_write 8 = .ok (.if_icmp .le 6, 3) := by decide +kernel
theorem dX4_write_11 : decode cX4_write 11 = .ok (.bipush (-2), 2) := by decide +kernel
theorem dX4_write_13 : decode cX4_write 13 = .ok (.ireturn, 1) := by decide +kernel
theorem dX4_write_14 : decode cX4_write 14 = .ok (.aload_n 0, 1) := by decide +kernel
theorem dX4_write_15 : decode cX4_write 15 = .ok (.getfield 10, 3) := by decide +kernel
theorem dX4_write_18 : decode cX4_write 18 = .ok (.getfield 52, 3) := by decide +kernel
theorem dX4_write_21 : decode cX4_write 21 = .ok (.bipush 56, 2) := by decide +kernel
theorem dX4_write_23 : decode cX4_write 23 = .ok (.if_icmp .lt 6, 3) := by decide +kernel
theorem dX4_write_26 : decode cX4_write 26 = .ok (.bipush (-4), 2) := by decide +kernel
theorem dX4_write_28 : decode cX4_write 28 = .ok (.ireturn, 1) := by decide +kernel
theorem dX4_write_29 : decode cX4_write 29 = .ok (.aload_n 0, 1) := by decide +kernel
theorem dX4_write_30 : decode cX4_write 30 = .ok (.getfield 10, 3) := by decide +kernel
theorem dX4_write_33 : decode cX4_write 33 = .ok (.iload_n 1, 1) := by decide +kernel
theorem dX4_write_34 : decode cX4_write 34 = .ok (.invokevirtual 55, 3) := by decide +kernel
theorem dX4_write_37 : decode cX4_write 37 = .ok (.aload_n 0, 1) := by decide +kernel
theorem dX4_write_38 : decode cX4_write 38 = .ok (.getfield 10, 3) := by decide +kernel
theorem dX4_write_41 : decode cX4_write 41 = .ok (.getfield 52, 3) := by decide +kernel
theorem dX4_write_44 : decode cX4_write 44 = .ok (.ireturn, 1) := by decide +kernel
theorem dX4_wipe_0 : decode cX4_wipe 0 = .ok (.aload_n 0, 1) := by decide +kernel
theorem dX4_wipe_1 : decode cX4_wipe 1 = .ok (.getfield 10, 3) := by decide +kernel
theorem dX4_wipe_4 : decode cX4_wipe 4 = .ok (.getfield 52, 3) := by decide +kernel
theorem dX4_wipe_7 : decode cX4_wipe 7 = .ok (.istore_n 1, 1) := by decide +kernel
theorem dX4_wipe_8 : decode cX4_wipe 8 = .ok (.aload_n 0, 1) := by decide +kernel
theorem dX4_wipe_9 : decode cX4_wipe 9 = .ok (.getfield 10, 3) := by decide +kernel
theorem dX4_wipe_12 : decode cX4_wipe 12 = .ok (.iconst 0, 1) := by decide +kernel
theorem dX4_wipe_13 : decode cX4_wipe 13 = .ok (.putfield 52, 3) := by decide +kernel
theorem dX4_wipe_16 : decode cX4_wipe 16 = .ok (.iload_n 1, 1) := by decide +kernel
theorem dX4_wipe_17 : decode cX4_wipe 17 = .ok (.ireturn, 1) := by decide +kernel
theorem dX4_fault_0 : decode cX4_fault 0 = .ok (.aload_n 0, 1) := by decide +kernel
theorem dX4_fault_1 : decode cX4_fault 1 = .ok (.getfield 10, 3) := by decide +kernel
theorem dX4_fault_4 : decode cX4_fault 4 = .ok (.aload_n 0, 1) := by decide +kernel
theorem dX4_fault_5 : decode cX4_fault 5 = .ok (.getfield 23, 3) := by decide +kernel
theorem dX4_fault_8 : decode cX4_fault 8 = .ok (.invokevirtual 58, 3) := by decide +kernel
theorem dX4_fault_11 : decode cX4_fault 11 = .ok (.ireturn, 1) := by decide +kernel
theorem dX4_house_0 : decode cX4_house 0 = .ok (.aload_n 0, 1) := by decide +kernel
theorem dX4_house_1 : decode cX4_house 1 = .ok (.getfield 10, 3) := by decide +kernel
theorem dX4_house_4 : decode cX4_house 4 = .ok (.aload_n 0, 1) := by decide +kernel
theorem dX4_house_5 : decode cX4_house 5 = .ok (.getfield 23, 3) := by decide +kernel
theorem dX4_house_8 : decode cX4_house 8 = .ok (.invokevirtual 58, 3) := by decide +kernel
theorem dX4_house_11 : decode cX4_house 11 = .ok (.bipush (-9), 2) := by decide +kernel
theorem dX4_house_13 : decode cX4_house 13 = .ok (.if_icmp .eq 6, 3) := by decide +kernel
theorem dX4_house_16 : decode cX4_house 16 = .ok (.bipush (-3), 2) := by decide +kernel
theorem dX4_house_18 : decode cX4_house 18 = .ok (.ireturn, 1) := by decide +kernel
theorem dX4_house_19 : decode cX4_house 19 = .ok (.aload_n 0, 1) := by decide +kernel
theorem dX4_house_20 : decode cX4_house 20 = .ok (.getfield 23, 3) := by decide +kernel
theorem dX4_house_23 : decode cX4_house 23 = .ok (.invokevirtual 62, 3) := by decide +kernel
theorem dX4_house_26 : decode cX4_house 26 = .ok (.pop, 1) := by decide +kernel
theorem dX4_house_27 : decode cX4_house 27 = .ok (.aload_n 0, 1) := by decide +kernel
theorem dX4_house_28 : decode cX4_house 28 = .ok (.getfield 23, 3) := by decide +kernel
theorem dX4_house_31 : decode cX4_house 31 = .ok (.iconst 0, 1) := by decide +kernel
theorem dX4_house_32 : decode cX4_house 32 = .ok (.putfield 66, 3) := by decide +kernel
theorem dX4_house_35 : decode cX4_house 35 = .ok (.aload_n 0, 1) := by decide +kernel
theorem dX4_house_36 : decode cX4_house 36 = .ok (.getfield 19, 3) := by decide +kernel
theorem dX4_house_39 : decode cX4_house 39 = .ok (.aload_n 0, 1) := by decide +kernel
theorem dX4_house_40 : decode cX4_house 40 = .ok (.getfield 23, 3) := by decide +kernel
theorem dX4_house_43 : decode cX4_house 43 = .ok (.invokevirtual 69, 3) := by decide +kernel
theorem dX4_house_46 : decode cX4_house 46 = .ok (.aload_n 0, 1) := by decide +kernel
theorem dX4_house_47 : decode cX4_house 47 = .ok (.iconst 0, 1) := by decide +kernel
theorem dX4_house_48 : decode cX4_house 48 = .ok (.putfield 73, 3) := by decide +kernel
theorem dX4_house_51 : decode cX4_house 51 = .ok (.aload_n 0, 1) := by decide +kernel
theorem dX4_house_52 : decode cX4_house 52 = .ok (.iconst 0, 1) := by decide +kernel
theorem dX4_house_53 : decode cX4_house 53 = .ok (.putfield 76, 3) := by decide +kernel
theorem dX4_house_56 : decode cX4_house 56 = .ok (.aload_n 0, 1) := by decide +kernel
theorem dX4_house_57 : decode cX4_house 57 = .ok (.getfield 19, 3) := by decide +kernel
theorem dX4_house_60 : decode cX4_house 60 = .ok (.invokevirtual 79, 3) := by decide +kernel
theorem dX4_house_63 : decode cX4_house 63 = .ok (.ireturn, 1) := by decide +kernel
theorem dX4_about_0 : decode cX4_about 0 = .ok (.iload_n 1, 1) := by decide +kernel
theorem dX4_about_1 : decode cX4_about 1 = .ok (.tableswitch 102 0 7 #[47, 55, 63, 68, 76, 84, 89, 94], 47) := by decide +kernel
theorem dX4_about_48 : decode cX4_about 48 = .ok (.aload_n 0, 1) := by decide +kernel
theorem dX4_about_49 : decode cX4_about 49 = .ok (.getfield 19, 3) := by decide +kernel
theorem dX4_about_52 : decode cX4_about 52 = .ok (.invokevirtual 79, 3) := by decide +kernel
theorem dX4_about_55 : decode cX4_about 55 = .ok (.ireturn, 1) := by decide +kernel
theorem dX4_about_56 : decode cX4_about 56 = .ok (.aload_n 0, 1) := by decide +kernel
theorem dX4_about_57 : decode cX4_about 57 = .ok (.getfield 19, 3) := by decide +kernel
theorem dX4_about_60 : decode cX4_about 60 = .ok (.getfield 82, 3) := by decide +kernel
theorem dX4_about_63 : decode cX4_about 63 = .ok (.ireturn, 1) := by decide +kernel
theorem dX4_about_64 : decode cX4_about 64 = .ok (.aload_n 0, 1) := by decide +kernel
theorem dX4_about_65 : decode cX4_about 65 = .ok (.invokevirtual 85, 3) := by decide +kernel
theorem dX4_about_68 : decode cX4_about 68 = .ok (.ireturn, 1) := by decide +kernel
theorem dX4_about_69 : decode cX4_about 69 = .ok (.aload_n 0, 1) := by decide +kernel
theorem dX4_about_70 : decode cX4_about 70 = .ok (.getfield 19, 3) := by decide +kernel
theorem dX4_about_73 : decode cX4_about 73 = .ok (.getfield 66, 3) := by decide +kernel
theorem dX4_about_76 : decode cX4_about 76 = .ok (.ireturn, 1) := by decide +kernel
theorem dX4_about_77 : decode cX4_about 77 = .ok (.aload_n 0, 1) := by decide +kernel
theorem dX4_about_78 : decode cX4_about 78 = .ok (.getfield 19, 3) := by decide +kernel
theorem dX4_about_81 : decode cX4_about 81 = .ok (.invokevirtual 88, 3) := by decide +kernel
theorem dX4_about_84 : decode cX4_about 84 = .ok (.ireturn, 1) := by decide +kernel
theorem dX4_about_85 : decode cX4_about 85 = .ok (.aload_n 0, 1) := by decide +kernel
theorem dX4_about_86 : decode cX4_about 86 = .ok (.getfield 73, 3) := by decide +kernel
theorem dX4_about_89 : decode cX4_about 89 = .ok (.ireturn, 1) := by decide +kernel
theorem dX4_about_90 : decode cX4_about 90 = .ok (.aload_n 0, 1) := by decide +kernel
theorem dX4_about_91 : decode cX4_about 91 = .ok (.getfield 91, 3) := by decide +kernel
theorem dX4_about_94 : decode cX4_about 94 = .ok (.ireturn, 1) := by decide +kernel
theorem dX4_about_95 : decode cX4_about 95 = .ok (.aload_n 0, 1) := by decide +kernel
theorem dX4_about_96 : decode cX4_about 96 = .ok (.getfield 10, 3) := by decide +kernel
theorem dX4_about_99 : decode cX4_about 99 = .ok (.getfield 52, 3) := by decide +kernel
theorem dX4_about_102 : decode cX4_about 102 = .ok (.ireturn, 1) := by decide +kernel
theorem dX4_about_103 : decode cX4_about 103 = .ok (.bipush (-2), 2) := by decide +kernel
theorem dX4_about_105 : decode cX4_about 105 = .ok (.ireturn, 1) := by decide +kernel
theorem dX4_cardsInDeck_0 : decode cX4_cardsInDeck 0 = .ok (.iconst 0, 1) := by decide +kernel
theorem dX4_cardsInDeck_1 : decode cX4_cardsInDeck 1 = .ok (.istore_n 1, 1) := by decide +kernel
theorem dX4_cardsInDeck_2 : decode cX4_cardsInDeck 2 = .ok (.iconst 0, 1) := by decide +kernel
theorem dX4_cardsInDeck_3 : decode cX4_cardsInDeck 3 = .ok (.istore_n 2, 1) := by decide +kernel
theorem dX4_cardsInDeck_4 : decode cX4_cardsInDeck 4 = .ok (.iload_n 2, 1) := by decide +kernel
theorem dX4_cardsInDeck_5 : decode cX4_cardsInDeck 5 = .ok (.iconst 4, 1) := by decide +kernel
theorem dX4_cardsInDeck_6 : decode cX4_cardsInDeck 6 = .ok (.if_icmp .ge 20, 3) := by decide +kernel
theorem dX4_cardsInDeck_9 : decode cX4_cardsInDeck 9 = .ok (.iload_n 1, 1) := by decide +kernel
theorem dX4_cardsInDeck_10 : decode cX4_cardsInDeck 10 = .ok (.aload_n 0, 1) := by decide +kernel
theorem dX4_cardsInDeck_11 : decode cX4_cardsInDeck 11 = .ok (.getfield 19, 3) := by decide +kernel
theorem dX4_cardsInDeck_14 : decode cX4_cardsInDeck 14 = .ok (.iload_n 2, 1) := by decide +kernel
theorem dX4_cardsInDeck_15 : decode cX4_cardsInDeck 15 = .ok (.invokevirtual 94, 3) := by decide +kernel
theorem dX4_cardsInDeck_18 : decode cX4_cardsInDeck 18 = .ok (.iadd, 1) := by decide +kernel
theorem dX4_cardsInDeck_19 : decode cX4_cardsInDeck 19 = .ok (.istore_n 1, 1) := by decide +kernel
theorem dX4_cardsInDeck_20 : decode cX4_cardsInDeck 20 = .ok (.iinc 2 1, 3) := by decide +kernel
theorem dX4_cardsInDeck_23 : decode cX4_cardsInDeck 23 = .ok (.goto (-19), 3) := by decide +kernel
theorem dX4_cardsInDeck_26 : decode cX4_cardsInDeck 26 = .ok (.iload_n 1, 1) := by decide +kernel
theorem dX4_cardsInDeck_27 : decode cX4_cardsInDeck 27 = .ok (.ireturn, 1) := by decide +kernel
theorem dX4_deck_0 : decode cX4_deck 0 = .ok (.iload_n 1, 1) := by decide +kernel
theorem dX4_deck_1 : decode cX4_deck 1 = .ok (.invokestatic 98, 3) := by decide +kernel
theorem dX4_deck_4 : decode cX4_deck 4 = .ok (.ifCond .eq 14, 3) := by decide +kernel
theorem dX4_deck_7 : decode cX4_deck 7 = .ok (.aload_n 0, 1) := by decide +kernel
theorem dX4_deck_8 : decode cX4_deck 8 = .ok (.getfield 19, 3) := by decide +kernel
theorem dX4_deck_11 : decode cX4_deck 11 = .ok (.iload_n 1, 1) := by decide +kernel
theorem dX4_deck_12 : decode cX4_deck 12 = .ok (.invokevirtual 94, 3) := by decide +kernel
theorem dX4_deck_15 : decode cX4_deck 15 = .ok (.goto 4, 3) := by decide +kernel
theorem dX4_deck_18 : decode cX4_deck 18 = .ok (.iconst (-1), 1) := by decide +kernel
theorem dX4_deck_19 : decode cX4_deck 19 = .ok (.ireturn, 1) := by decide +kernel
theorem dX4_piece_0 : decode cX4_piece 0 = .ok (.iload_n 1, 1) := by decide +kernel
theorem dX4_piece_1 : decode cX4_piece 1 = .ok (.invokestatic 102, 3) := by decide +kernel
theorem dX4_piece_4 : decode cX4_piece 4 = .ok (.ifCond .ne 5, 3) := by decide +kernel
theorem dX4_piece_7 : decode cX4_piece 7 = .ok (.iconst (-1), 1) := by decide +kernel
theorem dX4_piece_8 : decode cX4_piece 8 = .ok (.ireturn, 1) := by decide +kernel
theorem dX4_piece_9 : decode cX4_piece 9 = .ok (.iload_n 2, 1) := by decide +kernel
theorem dX4_piece_10 : decode cX4_piece 10 = .ok (.ifCond .lt 8, 3) := by decide +kernel
theorem dX4_piece_13 : decode cX4_piece 13 = .ok (.iload_n 2, 1) := by decide +kernel
theorem dX4_piece_14 : decode cX4_piece 14 = .ok (.iconst 4, 1) := by decide +kernel
theorem dX4_piece_15 : decode cX4_piece 15 = .ok (.if_icmp .le 6, 3) := by decide +kernel
theorem dX4_piece_18 : decode cX4_piece 18 = .ok (.bipush (-2), 2) := by decide +kernel
theorem dX4_piece_20 : decode cX4_piece 20 = .ok (.ireturn, 1) := by decide +kernel
theorem dX4_piece_21 : decode cX4_piece 21 = .ok (.aload_n 0, 1) := by decide +kernel
theorem dX4_piece_22 : decode cX4_piece 22 = .ok (.getfield 19, 3) := by decide +kernel
theorem dX4_piece_25 : decode cX4_piece 25 = .ok (.iload_n 1, 1) := by decide +kernel
theorem dX4_piece_26 : decode cX4_piece 26 = .ok (.invokevirtual 105, 3) := by decide +kernel
theorem dX4_piece_29 : decode cX4_piece 29 = .ok (.ifCond .ne 15, 3) := by decide +kernel
theorem dX4_piece_32 : decode cX4_piece 32 = .ok (.iload_n 2, 1) := by decide +kernel
theorem dX4_piece_33 : decode cX4_piece 33 = .ok (.ifCond .ne 8, 3) := by decide +kernel
theorem dX4_piece_36 : decode cX4_piece 36 = .ok (.bipush (-9), 2) := by decide +kernel
theorem dX4_piece_38 : decode cX4_piece 38 = .ok (.goto 5, 3) := by decide +kernel
theorem dX4_piece_41 : decode cX4_piece 41 = .ok (.bipush (-3), 2) := by decide +kernel
theorem dX4_piece_43 : decode cX4_piece 43 = .ok (.ireturn, 1) := by decide +kernel
theorem dX4_piece_44 : decode cX4_piece 44 = .ok (.iload_n 2, 1) := by decide +kernel
theorem dX4_piece_45 : decode cX4_piece 45 = .ok (.tableswitch 71 0 3 #[31, 40, 49, 58], 31) := by decide +kernel
theorem dX4_piece_76 : decode cX4_piece 76 = .ok (.aload_n 0, 1) := by decide +kernel
theorem dX4_piece_77 : decode cX4_piece 77 = .ok (.getfield 19, 3) := by decide +kernel
theorem dX4_piece_80 : decode cX4_piece 80 = .ok (.iload_n 1, 1) := by decide +kernel
theorem dX4_piece_81 : decode cX4_piece 81 = .ok (.invokevirtual 108, 3) := by decide +kernel
theorem dX4_piece_84 : decode cX4_piece 84 = .ok (.ireturn, 1) := by decide +kernel
theorem dX4_piece_85 : decode cX4_piece 85 = .ok (.aload_n 0, 1) := by decide +kernel
theorem dX4_piece_86 : decode cX4_piece 86 = .ok (.getfield 19, 3) := by decide +kernel
theorem dX4_piece_89 : decode cX4_piece 89 = .ok (.iload_n 1, 1) := by decide +kernel
theorem dX4_piece_90 : decode cX4_piece 90 = .ok (.invokevirtual 111, 3) := by decide +kernel
theorem dX4_piece_93 : decode cX4_piece 93 = .ok (.ireturn, 1) := by decide +kernel
theorem dX4_piece_94 : decode cX4_piece 94 = .ok (.aload_n 0, 1) := by decide +kernel
theorem dX4_piece_95 : decode cX4_piece 95 = .ok (.getfield 19, 3) := by decide +kernel
theorem dX4_piece_98 : decode cX4_piece 98 = .ok (.iload_n 1, 1) := by decide +kernel
theorem dX4_piece_99 : decode cX4_piece 99 = .ok (.invokevirtual 114, 3) := by decide +kernel
theorem dX4_piece_102 : decode cX4_piece 102 = .ok (.ireturn, 1) := by decide +kernel
theorem dX4_piece_103 : decode cX4_piece 103 = .ok (.getstatic 117, 3) := by decide +kernel
theorem dX4_piece_106 : decode cX4_piece 106 = .ok (.aload_n 0, 1) := by decide +kernel
theorem dX4_piece_107 : decode cX4_piece 107 = .ok (.getfield 19, 3) := by decide +kernel
theorem dX4_piece_110 : decode cX4_piece 110 = .ok (.iload_n 1, 1) := by decide +kernel
theorem dX4_piece_111 : decode cX4_piece 111 = .ok (.invokevirtual 108, 3) := by decide +kernel
theorem dX4_piece_114 : decode cX4_piece 114 = .ok (.iaload, 1) := by decide +kernel
theorem dX4_piece_115 : decode cX4_piece 115 = .ok (.ireturn, 1) := by decide +kernel
theorem dX4_piece_116 : decode cX4_piece 116 = .ok (.aload_n 0, 1) := by decide +kernel
theorem dX4_piece_117 : decode cX4_piece 117 = .ok (.getfield 19, 3) := by decide +kernel
theorem dX4_piece_120 : decode cX4_piece 120 = .ok (.iload_n 1, 1) := by decide +kernel
theorem dX4_piece_121 : decode cX4_piece 121 = .ok (.invokevirtual 121, 3) := by decide +kernel
theorem dX4_piece_124 : decode cX4_piece 124 = .ok (.ifCond .eq 7, 3) := by decide +kernel
theorem dX4_piece_127 : decode cX4_piece 127 = .ok (.iconst 1, 1) := by decide +kernel
theorem dX4_piece_128 : decode cX4_piece 128 = .ok (.goto 4, 3) := by decide +kernel
theorem dX4_piece_131 : decode cX4_piece 131 = .ok (.iconst 0, 1) := by decide +kernel
theorem dX4_piece_132 : decode cX4_piece 132 = .ok (.ireturn, 1) := by decide +kernel
theorem dX4_put_0 : decode cX4_put 0 = .ok (.iload_n 1, 1) := by decide +kernel
theorem dX4_put_1 : decode cX4_put 1 = .ok (.invokestatic 102, 3) := by decide +kernel
theorem dX4_put_4 : decode cX4_put 4 = .ok (.ifCond .eq 10, 3) := by decide +kernel
theorem dX4_put_7 : decode cX4_put 7 = .ok (.iload_n 2, 1) := by decide +kernel
theorem dX4_put_8 : decode cX4_put 8 = .ok (.invokestatic 98, 3) := by decide +kernel
theorem dX4_put_11 : decode cX4_put 11 = .ok (.ifCond .ne 5, 3) := by decide +kernel
theorem dX4_put_14 : decode cX4_put 14 = .ok (.iconst (-1), 1) := by decide +kernel
theorem dX4_put_15 : decode cX4_put 15 = .ok (.ireturn, 1) := by decide +kernel
theorem dX4_put_16 : decode cX4_put 16 = .ok (.aload_n 0, 1) := by decide +kernel
theorem dX4_put_17 : decode cX4_put 17 = .ok (.getfield 19, 3) := by decide +kernel
theorem dX4_put_20 : decode cX4_put 20 = .ok (.iload_n 1, 1) := by decide +kernel
theorem dX4_put_21 : decode cX4_put 21 = .ok (.invokevirtual 105, 3) := by decide +kernel
theorem dX4_put_24 : decode cX4_put 24 = .ok (.ifCond .eq 6, 3) := by decide +kernel
theorem dX4_put_27 : decode cX4_put 27 = .ok (.bipush (-4), 2) := by decide +kernel
theorem dX4_put_29 : decode cX4_put 29 = .ok (.ireturn, 1) := by decide +kernel
theorem dX4_put_30 : decode cX4_put 30 = .ok (.aload_n 0, 1) := by decide +kernel
theorem dX4_put_31 : decode cX4_put 31 = .ok (.getfield 19, 3) := by decide +kernel
theorem dX4_put_34 : decode cX4_put 34 = .ok (.iload_n 1, 1) := by decide +kernel
theorem dX4_put_35 : decode cX4_put 35 = .ok (.iload_n 2, 1) := by decide +kernel
theorem dX4_put_36 : decode cX4_put 36 = .ok (.invokevirtual 124, 3) := by decide +kernel
theorem dX4_put_39 : decode cX4_put 39 = .ok (.ifCond .ne 6, 3) := by decide +kernel
theorem dX4_put_42 : decode cX4_put 42 = .ok (.bipush (-3), 2) := by decide +kernel
theorem dX4_put_44 : decode cX4_put 44 = .ok (.ireturn, 1) := by decide +kernel
theorem dX4_put_45 : decode cX4_put 45 = .ok (.aload_n 0, 1) := by decide +kernel
theorem dX4_put_46 : decode cX4_put 46 = .ok (.invokevirtual 128, 3) := by decide +kernel
theorem dX4_put_49 : decode cX4_put 49 = .ok (.aload_n 0, 1) := by decide +kernel
theorem dX4_put_50 : decode cX4_put 50 = .ok (.getfield 19, 3) := by decide +kernel
theorem dX4_put_53 : decode cX4_put 53 = .ok (.iload_n 1, 1) := by decide +kernel
theorem dX4_put_54 : decode cX4_put 54 = .ok (.iload_n 2, 1) := by decide +kernel
theorem dX4_put_55 : decode cX4_put 55 = .ok (.invokevirtual 131, 3) := by decide +kernel
theorem dX4_put_58 : decode cX4_put 58 = .ok (.ireturn, 1) := by decide +kernel
theorem dX4_take_0 : decode cX4_take 0 = .ok (.iload_n 1, 1) := by decide +kernel
theorem dX4_take_1 : decode cX4_take 1 = .ok (.invokestatic 102, 3) := by decide +kernel
theorem dX4_take_4 : decode cX4_take 4 = .ok (.ifCond .ne 5, 3) := by decide +kernel
theorem dX4_take_7 : decode cX4_take 7 = .ok (.iconst (-1), 1) := by decide +kernel
theorem dX4_take_8 : decode cX4_take 8 = .ok (.ireturn, 1) := by decide +kernel
theorem dX4_take_9 : decode cX4_take 9 = .ok (.aload_n 0, 1) := by decide +kernel
theorem dX4_take_10 : decode cX4_take 10 = .ok (.getfield 19, 3) := by decide +kernel
theorem dX4_take_13 : decode cX4_take 13 = .ok (.iload_n 1, 1) := by decide +kernel
theorem dX4_take_14 : decode cX4_take 14 = .ok (.invokevirtual 121, 3) := by decide +kernel
theorem dX4_take_17 : decode cX4_take 17 = .ok (.ifCond .ne 6, 3) := by decide +kernel
theorem dX4_take_20 : decode cX4_take 20 = .ok (.bipush (-3), 2) := by decide +kernel
theorem dX4_take_22 : decode cX4_take 22 = .ok (.ireturn, 1) := by decide +kernel
theorem dX4_take_23 : decode cX4_take 23 = .ok (.aload_n 0, 1) := by decide +kernel
theorem dX4_take_24 : decode cX4_take 24 = .ok (.invokevirtual 128, 3) := by decide +kernel
theorem dX4_take_27 : decode cX4_take 27 = .ok (.aload_n 0, 1) := by decide +kernel
theorem dX4_take_28 : decode cX4_take 28 = .ok (.getfield 19, 3) := by decide +kernel
theorem dX4_take_31 : decode cX4_take 31 = .ok (.iload_n 1, 1) := by decide +kernel
theorem dX4_take_32 : decode cX4_take 32 = .ok (.invokevirtual 135, 3) := by decide +kernel
theorem dX4_take_35 : decode cX4_take 35 = .ok (.iload_n 1, 1) := by decide +kernel
theorem dX4_take_36 : decode cX4_take 36 = .ok (.invokestatic 138, 3) := by decide +kernel
theorem dX4_take_39 : decode cX4_take 39 = .ok (.ireturn, 1) := by decide +kernel
theorem dX4_draught_0 : decode cX4_draught 0 = .ok (.iload_n 1, 1) := by decide +kernel
theorem dX4_draught_1 : decode cX4_draught 1 = .ok (.invokestatic 141, 3) := by decide +kernel
theorem dX4_draught_4 : decode cX4_draught 4 = .ok (.ifCond .ne 5, 3) := by decide +kernel
theorem dX4_draught_7 : decode cX4_draught 7 = .ok (.iconst (-1), 1) := by decide +kernel
theorem dX4_draught_8 : decode cX4_draught 8 = .ok (.ireturn, 1) := by decide +kernel
theorem dX4_draught_9 : decode cX4_draught 9 = .ok (.iload_n 2, 1) := by decide +kernel
theorem dX4_draught_10 : decode cX4_draught 10 = .ok (.invokestatic 144, 3) := by decide +kernel
theorem dX4_draught_13 : decode cX4_draught 13 = .ok (.ifCond .ne 6, 3) := by decide +kernel
theorem dX4_draught_16 : decode cX4_draught 16 = .ok (.bipush (-2), 2) := by decide +kernel
theorem dX4_draught_18 : decode cX4_draught 18 = .ok (.ireturn, 1) := by decide +kernel
theorem dX4_draught_19 : decode cX4_draught 19 = .ok (.aload_n 0, 1) := by decide +kernel
theorem dX4_draught_20 : decode cX4_draught 20 = .ok (.invokevirtual 128, 3) := by decide +kernel
theorem dX4_draught_23 : decode cX4_draught 23 = .ok (.aload_n 0, 1) := by decide +kernel
theorem dX4_draught_24 : decode cX4_draught 24 = .ok (.getfield 19, 3) := by decide +kernel
theorem dX4_draught_27 : decode cX4_draught 27 = .ok (.iload_n 1, 1) := by decide +kernel
theorem dX4_draught_28 : decode cX4_draught 28 = .ok (.iload_n 2, 1) := by decide +kernel
theorem dX4_draught_29 : decode cX4_draught 29 = .ok (.invokevirtual 147, 3) := by decide +kernel
theorem dX4_draught_32 : decode cX4_draught 32 = .ok (.ireturn, 1) := by decide +kernel
theorem dX4_undo_0 : decode cX4_undo 0 = .ok (.aload_n 0, 1) := by decide +kernel
theorem dX4_undo_1 : decode cX4_undo 1 = .ok (.getfield 73, 3) := by decide +kernel
theorem dX4_undo_4 : decode cX4_undo 4 = .ok (.ifCond .ne 6, 3) := by decide +kernel
theorem dX4_undo_7 : decode cX4_undo 7 = .ok (.bipush (-3), 2) := by decide +kernel
theorem dX4_undo_9 : decode cX4_undo 9 = .ok (.ireturn, 1) := by decide +kernel
theorem dX4_undo_10 : decode cX4_undo 10 = .ok (.aload_n 0, 1) := by decide +kernel
theorem dX4_undo_11 : decode cX4_undo 11 = .ok (.dup, 1) := by decide +kernel
theorem dX4_undo_12 : decode cX4_undo 12 = .ok (.getfield 73, 3) := by decide +kernel
theorem dX4_undo_15 : decode cX4_undo 15 = .ok (.iconst 1, 1) := by decide +kernel
theorem dX4_undo_16 : decode cX4_undo 16 = .ok (.isub, 1) := by decide +kernel
theorem dX4_undo_17 : decode cX4_undo 17 = .ok (.putfield 73, 3) := by decide +kernel
theorem dX4_undo_20 : decode cX4_undo 20 = .ok (.aload_n 0, 1) := by decide +kernel
theorem dX4_undo_21 : decode cX4_undo 21 = .ok (.getfield 31, 3) := by decide +kernel
theorem dX4_undo_24 : decode cX4_undo 24 = .ok (.aload_n 0, 1) := by decide +kernel
theorem dX4_undo_25 : decode cX4_undo 25 = .ok (.getfield 73, 3) := by decide +kernel
theorem dX4_undo_28 : decode cX4_undo 28 = .ok (.aload_n 0, 1) := by decide +kernel
theorem dX4_undo_29 : decode cX4_undo 29 = .ok (.getfield 19, 3) := by decide +kernel
theorem dX4_undo_32 : decode cX4_undo 32 = .ok (.invokevirtual 150, 3) := by decide +kernel
theorem dX4_undo_35 : decode cX4_undo 35 = .ok (.aload_n 0, 1) := by decide +kernel
theorem dX4_undo_36 : decode cX4_undo 36 = .ok (.getfield 73, 3) := by decide +kernel
theorem dX4_undo_39 : decode cX4_undo 39 = .ok (.ireturn, 1) := by decide +kernel
theorem dX4_recordAct_0 : decode cX4_recordAct 0 = .ok (.aload_n 0, 1) := by decide +kernel
theorem dX4_recordAct_1 : decode cX4_recordAct 1 = .ok (.getfield 73, 3) := by decide +kernel
theorem dX4_recordAct_4 : decode cX4_recordAct 4 = .ok (.bipush 14, 2) := by decide +kernel
theorem dX4_recordAct_6 : decode cX4_recordAct 6 = .ok (.if_icmp .lt 16, 3) := by decide +kernel
theorem dX4_recordAct_9 : decode cX4_recordAct 9 = .ok (.aload_n 0, 1) := by decide +kernel
theorem dX4_recordAct_10 : decode cX4_recordAct 10 = .ok (.getfield 31, 3) := by decide +kernel
theorem dX4_recordAct_13 : decode cX4_recordAct 13 = .ok (.invokevirtual 154, 3) := by decide +kernel
theorem dX4_recordAct_16 : decode cX4_recordAct 16 = .ok (.aload_n 0, 1) := by decide +kernel
theorem dX4_recordAct_17 : decode cX4_recordAct 17 = .ok (.bipush 13, 2) := by decide +kernel
theorem dX4_recordAct_19 : decode cX4_recordAct 19 = .ok (.putfield 73, 3) := by decide +kernel
theorem dX4_recordAct_22 : decode cX4_recordAct 22 = .ok (.aload_n 0, 1) := by decide +kernel
theorem dX4_recordAct_23 : decode cX4_recordAct 23 = .ok (.getfield 31, 3) := by decide +kernel
theorem dX4_recordAct_26 : decode cX4_recordAct 26 = .ok (.aload_n 0, 1) := by decide +kernel
theorem dX4_recordAct_27 : decode cX4_recordAct 27 = .ok (.getfield 73, 3) := by decide +kernel
theorem dX4_recordAct_30 : decode cX4_recordAct 30 = .ok (.aload_n 0, 1) := by decide +kernel
theorem dX4_recordAct_31 : decode cX4_recordAct 31 = .ok (.getfield 19, 3) := by decide +kernel
theorem dX4_recordAct_34 : decode cX4_recordAct 34 = .ok (.invokevirtual 157, 3) := by decide +kernel
theorem dX4_recordAct_37 : decode cX4_recordAct 37 = .ok (.aload_n 0, 1) := by decide +kernel
theorem dX4_recordAct_38 : decode cX4_recordAct 38 = .ok (.dup, 1) := by decide +kernel
theorem dX4_recordAct_39 : decode cX4_recordAct 39 = .ok (.getfield 73, 3) := by decide +kernel
theorem dX4_recordAct_42 : decode cX4_recordAct 42 = .ok (.iconst 1, 1) := by decide +kernel
theorem dX4_recordAct_43 : decode cX4_recordAct 43 = .ok (.iadd, 1) := by decide +kernel
theorem dX4_recordAct_44 : decode cX4_recordAct 44 = .ok (.putfield 73, 3) := by decide +kernel
theorem dX4_recordAct_47 : decode cX4_recordAct 47 = .ok (.return_, 1) := by decide +kernel
theorem dX4_open_0 : decode cX4_open 0 = .ok (.iload_n 1, 1) := by decide +kernel
theorem dX4_open_1 : decode cX4_open 1 = .ok (.invokestatic 98, 3) := by decide +kernel
theorem dX4_open_4 : decode cX4_open 4 = .ok (.ifCond .ne 5, 3) := by decide +kernel
theorem dX4_open_7 : decode cX4_open 7 = .ok (.iconst (-1), 1) := by decide +kernel
theorem dX4_open_8 : decode cX4_open 8 = .ok (.ireturn, 1) := by decide +kernel
theorem dX4_open_9 : decode cX4_open 9 = .ok (.aload_n 0, 1) := by decide +kernel
theorem dX4_open_10 : decode cX4_open 10 = .ok (.getfield 19, 3) := by decide +kernel
theorem dX4_open_13 : decode cX4_open 13 = .ok (.iload_n 1, 1) := by decide +kernel
theorem dX4_open_14 : decode cX4_open 14 = .ok (.invokevirtual 94, 3) := by decide +kernel
theorem dX4_open_17 : decode cX4_open 17 = .ok (.istore_n 2, 1) := by decide +kernel
theorem dX4_open_18 : decode cX4_open 18 = .ok (.iconst 0, 1) := by decide +kernel
theorem dX4_open_19 : decode cX4_open 19 = .ok (.istore_n 3, 1) := by decide +kernel
theorem dX4_open_20 : decode cX4_open 20 = .ok (.iconst 0, 1) := by decide +kernel
theorem dX4_open_21 : decode cX4_open 21 = .ok (.istore 4, 2) := by decide +kernel
theorem dX4_open_23 : decode cX4_open 23 = .ok (.iload 4, 2) := by decide +kernel
theorem dX4_open_25 : decode cX4_open 25 = .ok (.bipush 16, 2) := by decide +kernel
theorem dX4_open_27 : decode cX4_open 27 = .ok (.if_icmp .ge 37, 3) := by decide +kernel
theorem dX4_open_30 : decode cX4_open 30 = .ok (.aload_n 0, 1) := by decide +kernel
theorem dX4_open_31 : decode cX4_open 31 = .ok (.getfield 19, 3) := by decide +kernel
theorem dX4_open_34 : decode cX4_open 34 = .ok (.iload 4, 2) := by decide +kernel
theorem dX4_open_36 : decode cX4_open 36 = .ok (.invokevirtual 160, 3) := by decide +kernel
theorem dX4_open_39 : decode cX4_open 39 = .ok (.ifCond .eq 19, 3) := by decide +kernel
theorem dX4_open_42 : decode cX4_open 42 = .ok (.iload 4, 2) := by decide +kernel
theorem dX4_open_44 : decode cX4_open 44 = .ok (.invokestatic 138, 3) := by decide +kernel
theorem dX4_open_47 : decode cX4_open 47 = .ok (.iload_n 2, 1) := by decide +kernel
theorem dX4_open_48 : decode cX4_open 48 = .ok (.if_icmp .gt 10, 3) := by decide +kernel
theorem dX4_open_51 : decode cX4_open 51 = .ok (.iload_n 3, 1) := by decide +kernel
theorem dX4_open_52 : decode cX4_open 52 = .ok (.iconst 1, 1) := by decide +kernel
theorem dX4_open_53 : decode cX4_open 53 = .ok (.iload 4, 2) := by decide +kernel
theorem dX4_open_55 : decode cX4_open 55 = .ok (.ishl, 1) := by decide +kernel
theorem dX4_open_56 : decode cX4_open 56 = .ok (.ior, 1) := by decide +kernel
theorem dX4_open_57 : decode cX4_open 57 = .ok (.istore_n 3, 1) := by decide +kernel
theorem dX4_open_58 : decode cX4_open 58 = .ok (.iinc 4 1, 3) := by decide +kernel
theorem dX4_open_61 : decode cX4_open 61 = .ok (.goto (-38), 3) := by decide +kernel
theorem dX4_open_64 : decode cX4_open 64 = .ok (.iload_n 3, 1) := by decide +kernel
theorem dX4_open_65 : decode cX4_open 65 = .ok (.ireturn, 1) := by decide +kernel
theorem dX4_spread_0 : decode cX4_spread 0 = .ok (.iload_n 1, 1) := by decide +kernel
theorem dX4_spread_1 : decode cX4_spread 1 = .ok (.invokestatic 102, 3) := by decide +kernel
theorem dX4_spread_4 : decode cX4_spread 4 = .ok (.ifCond .ne 5, 3) := by decide +kernel
theorem dX4_spread_7 : decode cX4_spread 7 = .ok (.iconst (-1), 1) := by decide +kernel
theorem dX4_spread_8 : decode cX4_spread 8 = .ok (.ireturn, 1) := by decide +kernel
theorem dX4_spread_9 : decode cX4_spread 9 = .ok (.aload_n 0, 1) := by decide +kernel
theorem dX4_spread_10 : decode cX4_spread 10 = .ok (.getfield 19, 3) := by decide +kernel
theorem dX4_spread_13 : decode cX4_spread 13 = .ok (.iload_n 1, 1) := by decide +kernel
theorem dX4_spread_14 : decode cX4_spread 14 = .ok (.invokevirtual 105, 3) := by decide +kernel
theorem dX4_spread_17 : decode cX4_spread 17 = .ok (.ifCond .ne 6, 3) := by decide +kernel
theorem dX4_spread_20 : decode cX4_spread 20 = .ok (.bipush (-3), 2) := by decide +kernel
theorem dX4_spread_22 : decode cX4_spread 22 = .ok (.ireturn, 1) := by decide +kernel
theorem dX4_spread_23 : decode cX4_spread 23 = .ok (.aload_n 0, 1) := by decide +kernel
theorem dX4_spread_24 : decode cX4_spread 24 = .ok (.getfield 19, 3) := by decide +kernel
theorem dX4_spread_27 : decode cX4_spread 27 = .ok (.iconst 1, 1) := by decide +kernel
theorem dX4_spread_28 : decode cX4_spread 28 = .ok (.iload_n 1, 1) := by decide +kernel
theorem dX4_spread_29 : decode cX4_spread 29 = .ok (.ishl, 1) := by decide +kernel
theorem dX4_spread_30 : decode cX4_spread 30 = .ok (.invokevirtual 163, 3) := by decide +kernel
theorem dX4_spread_33 : decode cX4_spread 33 = .ok (.ireturn, 1) := by decide +kernel
theorem dX4_stands_0 : decode cX4_stands 0 = .ok (.iload_n 1, 1) := by decide +kernel
theorem dX4_stands_1 : decode cX4_stands 1 = .ok (.invokestatic 141, 3) := by decide +kernel
theorem dX4_stands_4 : decode cX4_stands 4 = .ok (.ifCond .ne 5, 3) := by decide +kernel
theorem dX4_stands_7 : decode cX4_stands 7 = .ok (.iconst (-1), 1) := by decide +kernel
theorem dX4_stands_8 : decode cX4_stands 8 = .ok (.ireturn, 1) := by decide +kernel
end
section
theorem dX4_stands_9 : decode cX4_stands 9 = .ok (.aload_n 0, 1) := by decide +kernel
theorem dX4_stands_10 : decode cX4_stands 10 = .ok (.getfield 19, 3) := by decide +kernel
theorem dX4_stands_13 : decode cX4_stands 13 = .ok (.iload_n 1, 1) := by decide +kernel
theorem dX4_stands_14 : decode cX4_stands 14 = .ok (.invokevirtual 166, 3) := by decide +kernel
theorem dX4_stands_17 : decode cX4_stands 17 = .ok (.ireturn, 1) := by decide +kernel
theorem dX4_wants_0 : decode cX4_wants 0 = .ok (.iload_n 1, 1) := by decide +kernel
theorem dX4_wants_1 : decode cX4_wants 1 = .ok (.invokestatic 102, 3) := by decide +kernel
theorem dX4_wants_4 : decode cX4_wants 4 = .ok (.ifCond .ne 5, 3) := by decide +kernel
theorem dX4_wants_7 : decode cX4_wants 7 = .ok (.iconst (-1), 1) := by decide +kernel
theorem dX4_wants_8 : decode cX4_wants 8 = .ok (.ireturn, 1) := by decide +kernel
theorem dX4_wants_9 : decode cX4_wants 9 = .ok (.iload_n 2, 1) := by decide +kernel
theorem dX4_wants_10 : decode cX4_wants 10 = .ok (.ifCond .lt 8, 3) := by decide +kernel
theorem dX4_wants_13 : decode cX4_wants 13 = .ok (.iload_n 2, 1) := by decide +kernel
theorem dX4_wants_14 : decode cX4_wants 14 = .ok (.iconst 1, 1) := by decide +kernel
theorem dX4_wants_15 : decode cX4_wants 15 = .ok (.if_icmp .le 6, 3) := by decide +kernel
theorem dX4_wants_18 : decode cX4_wants 18 = .ok (.bipush (-2), 2) := by decide +kernel
theorem dX4_wants_20 : decode cX4_wants 20 = .ok (.ireturn, 1) := by decide +kernel
theorem dX4_wants_21 : decode cX4_wants 21 = .ok (.aload_n 0, 1) := by decide +kernel
theorem dX4_wants_22 : decode cX4_wants 22 = .ok (.getfield 19, 3) := by decide +kernel
theorem dX4_wants_25 : decode cX4_wants 25 = .ok (.iload_n 1, 1) := by decide +kernel
theorem dX4_wants_26 : decode cX4_wants 26 = .ok (.invokevirtual 169, 3) := by decide +kernel
theorem dX4_wants_29 : decode cX4_wants 29 = .ok (.istore_n 3, 1) := by decide +kernel
theorem dX4_wants_30 : decode cX4_wants 30 = .ok (.iload_n 3, 1) := by decide +kernel
theorem dX4_wants_31 : decode cX4_wants 31 = .ok (.invokestatic 172, 3) := by decide +kernel
theorem dX4_wants_34 : decode cX4_wants 34 = .ok (.istore 4, 2) := by decide +kernel
theorem dX4_wants_36 : decode cX4_wants 36 = .ok (.iload_n 2, 1) := by decide +kernel
theorem dX4_wants_37 : decode cX4_wants 37 = .ok (.ifCond .ne 8, 3) := by decide +kernel
theorem dX4_wants_40 : decode cX4_wants 40 = .ok (.iload 4, 2) := by decide +kernel
theorem dX4_wants_42 : decode cX4_wants 42 = .ok (.goto 13, 3) := by decide +kernel
theorem dX4_wants_45 : decode cX4_wants 45 = .ok (.iload 4, 2) := by decide +kernel
theorem dX4_wants_47 : decode cX4_wants 47 = .ok (.iload_n 3, 1) := by decide +kernel
theorem dX4_wants_48 : decode cX4_wants 48 = .ok (.ldc 177, 2) := by decide +kernel
theorem dX4_wants_50 : decode cX4_wants 50 = .ok (.iand, 1) := by decide +kernel
theorem dX4_wants_51 : decode cX4_wants 51 = .ok (.invokestatic 172, 3) := by decide +kernel
theorem dX4_wants_54 : decode cX4_wants 54 = .ok (.iadd, 1) := by decide +kernel
theorem dX4_wants_55 : decode cX4_wants 55 = .ok (.ireturn, 1) := by decide +kernel
theorem dX4_fit_0 : decode cX4_fit 0 = .ok (.iload_n 1, 1) := by decide +kernel
theorem dX4_fit_1 : decode cX4_fit 1 = .ok (.invokestatic 102, 3) := by decide +kernel
theorem dX4_fit_4 : decode cX4_fit 4 = .ok (.ifCond .ne 5, 3) := by decide +kernel
theorem dX4_fit_7 : decode cX4_fit 7 = .ok (.iconst (-1), 1) := by decide +kernel
theorem dX4_fit_8 : decode cX4_fit 8 = .ok (.ireturn, 1) := by decide +kernel
theorem dX4_fit_9 : decode cX4_fit 9 = .ok (.aload_n 0, 1) := by decide +kernel
theorem dX4_fit_10 : decode cX4_fit 10 = .ok (.getfield 19, 3) := by decide +kernel
theorem dX4_fit_13 : decode cX4_fit 13 = .ok (.iload_n 1, 1) := by decide +kernel
theorem dX4_fit_14 : decode cX4_fit 14 = .ok (.invokevirtual 105, 3) := by decide +kernel
theorem dX4_fit_17 : decode cX4_fit 17 = .ok (.ifCond .eq 6, 3) := by decide +kernel
theorem dX4_fit_20 : decode cX4_fit 20 = .ok (.bipush (-4), 2) := by decide +kernel
theorem dX4_fit_22 : decode cX4_fit 22 = .ok (.ireturn, 1) := by decide +kernel
theorem dX4_fit_23 : decode cX4_fit 23 = .ok (.iconst 0, 1) := by decide +kernel
theorem dX4_fit_24 : decode cX4_fit 24 = .ok (.istore_n 2, 1) := by decide +kernel
theorem dX4_fit_25 : decode cX4_fit 25 = .ok (.iload_n 2, 1) := by decide +kernel
theorem dX4_fit_26 : decode cX4_fit 26 = .ok (.iconst 4, 1) := by decide +kernel
theorem dX4_fit_27 : decode cX4_fit 27 = .ok (.if_icmp .ge 46, 3) := by decide +kernel
theorem dX4_fit_30 : decode cX4_fit 30 = .ok (.aload_n 0, 1) := by decide +kernel
theorem dX4_fit_31 : decode cX4_fit 31 = .ok (.getfield 23, 3) := by decide +kernel
theorem dX4_fit_34 : decode cX4_fit 34 = .ok (.aload_n 0, 1) := by decide +kernel
theorem dX4_fit_35 : decode cX4_fit 35 = .ok (.getfield 19, 3) := by decide +kernel
theorem dX4_fit_38 : decode cX4_fit 38 = .ok (.invokevirtual 69, 3) := by decide +kernel
theorem dX4_fit_41 : decode cX4_fit 41 = .ok (.aload_n 0, 1) := by decide +kernel
theorem dX4_fit_42 : decode cX4_fit 42 = .ok (.getfield 23, 3) := by decide +kernel
theorem dX4_fit_45 : decode cX4_fit 45 = .ok (.iload_n 1, 1) := by decide +kernel
theorem dX4_fit_46 : decode cX4_fit 46 = .ok (.iload_n 2, 1) := by decide +kernel
theorem dX4_fit_47 : decode cX4_fit 47 = .ok (.invokevirtual 124, 3) := by decide +kernel
theorem dX4_fit_50 : decode cX4_fit 50 = .ok (.ifCond .eq 17, 3) := by decide +kernel
theorem dX4_fit_53 : decode cX4_fit 53 = .ok (.aload_n 0, 1) := by decide +kernel
theorem dX4_fit_54 : decode cX4_fit 54 = .ok (.getfield 23, 3) := by decide +kernel
theorem dX4_fit_57 : decode cX4_fit 57 = .ok (.iload_n 1, 1) := by decide +kernel
theorem dX4_fit_58 : decode cX4_fit 58 = .ok (.iload_n 2, 1) := by decide +kernel
theorem dX4_fit_59 : decode cX4_fit 59 = .ok (.invokevirtual 131, 3) := by decide +kernel
theorem dX4_fit_62 : decode cX4_fit 62 = .ok (.ifCond .ne 5, 3) := by decide +kernel
theorem dX4_fit_65 : decode cX4_fit 65 = .ok (.iload_n 2, 1) := by decide +kernel
theorem dX4_fit_66 : decode cX4_fit 66 = .ok (.ireturn, 1) := by decide +kernel
theorem dX4_fit_67 : decode cX4_fit 67 = .ok (.iinc 2 1, 3) := by decide +kernel
theorem dX4_fit_70 : decode cX4_fit 70 = .ok (.goto (-45), 3) := by decide +kernel
theorem dX4_fit_73 : decode cX4_fit 73 = .ok (.bipush (-9), 2) := by decide +kernel
theorem dX4_fit_75 : decode cX4_fit 75 = .ok (.ireturn, 1) := by decide +kernel
theorem dX4_judge_0 : decode cX4_judge 0 = .ok (.iload_n 1, 1) := by decide +kernel
theorem dX4_judge_1 : decode cX4_judge 1 = .ok (.iconst 1, 1) := by decide +kernel
theorem dX4_judge_2 : decode cX4_judge 2 = .ok (.if_icmp .lt 8, 3) := by decide +kernel
theorem dX4_judge_5 : decode cX4_judge 5 = .ok (.iload_n 1, 1) := by decide +kernel
theorem dX4_judge_6 : decode cX4_judge 6 = .ok (.iconst 4, 1) := by decide +kernel
theorem dX4_judge_7 : decode cX4_judge 7 = .ok (.if_icmp .le 6, 3) := by decide +kernel
theorem dX4_judge_10 : decode cX4_judge 10 = .ok (.bipush (-2), 2) := by decide +kernel
theorem dX4_judge_12 : decode cX4_judge 12 = .ok (.ireturn, 1) := by decide +kernel
theorem dX4_judge_13 : decode cX4_judge 13 = .ok (.lload_n 2, 1) := by decide +kernel
theorem dX4_judge_14 : decode cX4_judge 14 = .ok (.lconst 0, 1) := by decide +kernel
theorem dX4_judge_15 : decode cX4_judge 15 = .ok (.lcmp, 1) := by decide +kernel
theorem dX4_judge_16 : decode cX4_judge 16 = .ok (.ifCond .lt 13, 3) := by decide +kernel
theorem dX4_judge_19 : decode cX4_judge 19 = .ok (.lload_n 2, 1) := by decide +kernel
theorem dX4_judge_20 : decode cX4_judge 20 = .ok (.getstatic 178, 3) := by decide +kernel
theorem dX4_judge_23 : decode cX4_judge 23 = .ok (.iload_n 1, 1) := by decide +kernel
theorem dX4_judge_24 : decode cX4_judge 24 = .ok (.laload, 1) := by decide +kernel
theorem dX4_judge_25 : decode cX4_judge 25 = .ok (.lcmp, 1) := by decide +kernel
theorem dX4_judge_26 : decode cX4_judge 26 = .ok (.ifCond .lt 6, 3) := by decide +kernel
theorem dX4_judge_29 : decode cX4_judge 29 = .ok (.bipush (-2), 2) := by decide +kernel
theorem dX4_judge_31 : decode cX4_judge 31 = .ok (.ireturn, 1) := by decide +kernel
theorem dX4_judge_32 : decode cX4_judge 32 = .ok (.aload_n 0, 1) := by decide +kernel
theorem dX4_judge_33 : decode cX4_judge 33 = .ok (.getfield 23, 3) := by decide +kernel
theorem dX4_judge_36 : decode cX4_judge 36 = .ok (.aload_n 0, 1) := by decide +kernel
theorem dX4_judge_37 : decode cX4_judge 37 = .ok (.getfield 19, 3) := by decide +kernel
theorem dX4_judge_40 : decode cX4_judge 40 = .ok (.invokevirtual 69, 3) := by decide +kernel
theorem dX4_judge_43 : decode cX4_judge 43 = .ok (.iconst 0, 1) := by decide +kernel
theorem dX4_judge_44 : decode cX4_judge 44 = .ok (.istore 4, 2) := by decide +kernel
theorem dX4_judge_46 : decode cX4_judge 46 = .ok (.iload 4, 2) := by decide +kernel
theorem dX4_judge_48 : decode cX4_judge 48 = .ok (.iload_n 1, 1) := by decide +kernel
theorem dX4_judge_49 : decode cX4_judge 49 = .ok (.if_icmp .ge 44, 3) := by decide +kernel
theorem dX4_judge_52 : decode cX4_judge 52 = .ok (.getstatic 178, 3) := by decide +kernel
theorem dX4_judge_55 : decode cX4_judge 55 = .ok (.iload_n 1, 1) := by decide +kernel
theorem dX4_judge_56 : decode cX4_judge 56 = .ok (.iconst 1, 1) := by decide +kernel
theorem dX4_judge_57 : decode cX4_judge 57 = .ok (.isub, 1) := by decide +kernel
theorem dX4_judge_58 : decode cX4_judge 58 = .ok (.iload 4, 2) := by decide +kernel
theorem dX4_judge_60 : decode cX4_judge 60 = .ok (.isub, 1) := by decide +kernel
theorem dX4_judge_61 : decode cX4_judge 61 = .ok (.laload, 1) := by decide +kernel
theorem dX4_judge_62 : decode cX4_judge 62 = .ok (.lstore 5, 2) := by decide +kernel
theorem dX4_judge_64 : decode cX4_judge 64 = .ok (.lload_n 2, 1) := by decide +kernel
theorem dX4_judge_65 : decode cX4_judge 65 = .ok (.lload 5, 2) := by decide +kernel
theorem dX4_judge_67 : decode cX4_judge 67 = .ok (.ldiv, 1) := by decide +kernel
theorem dX4_judge_68 : decode cX4_judge 68 = .ok (.ldc2_w 182, 3) := by decide +kernel
theorem dX4_judge_71 : decode cX4_judge 71 = .ok (.lrem, 1) := by decide +kernel
theorem dX4_judge_72 : decode cX4_judge 72 = .ok (.l2i, 1) := by decide +kernel
theorem dX4_judge_73 : decode cX4_judge 73 = .ok (.istore 7, 2) := by decide +kernel
theorem dX4_judge_75 : decode cX4_judge 75 = .ok (.aload_n 0, 1) := by decide +kernel
theorem dX4_judge_76 : decode cX4_judge 76 = .ok (.iload 7, 2) := by decide +kernel
theorem dX4_judge_78 : decode cX4_judge 78 = .ok (.invokevirtual 184, 3) := by decide +kernel
theorem dX4_judge_81 : decode cX4_judge 81 = .ok (.ifCond .ne 6, 3) := by decide +kernel
theorem dX4_judge_84 : decode cX4_judge 84 = .ok (.iload 4, 2) := by decide +kernel
theorem dX4_judge_86 : decode cX4_judge 86 = .ok (.ireturn, 1) := by decide +kernel
theorem dX4_judge_87 : decode cX4_judge 87 = .ok (.iinc 4 1, 3) := by decide +kernel
theorem dX4_judge_90 : decode cX4_judge 90 = .ok (.goto (-44), 3) := by decide +kernel
theorem dX4_judge_93 : decode cX4_judge 93 = .ok (.bipush (-9), 2) := by decide +kernel
theorem dX4_judge_95 : decode cX4_judge 95 = .ok (.ireturn, 1) := by decide +kernel
theorem dX4_canBeDone_0 : decode cX4_canBeDone 0 = .ok (.iload_n 1, 1) := by decide +kernel
theorem dX4_canBeDone_1 : decode cX4_canBeDone 1 = .ok (.bipush 10, 2) := by decide +kernel
theorem dX4_canBeDone_3 : decode cX4_canBeDone 3 = .ok (.idiv, 1) := by decide +kernel
theorem dX4_canBeDone_4 : decode cX4_canBeDone 4 = .ok (.bipush 100, 2) := by decide +kernel
theorem dX4_canBeDone_6 : decode cX4_canBeDone 6 = .ok (.irem, 1) := by decide +kernel
theorem dX4_canBeDone_7 : decode cX4_canBeDone 7 = .ok (.istore_n 2, 1) := by decide +kernel
theorem dX4_canBeDone_8 : decode cX4_canBeDone 8 = .ok (.iload_n 1, 1) := by decide +kernel
theorem dX4_canBeDone_9 : decode cX4_canBeDone 9 = .ok (.bipush 10, 2) := by decide +kernel
theorem dX4_canBeDone_11 : decode cX4_canBeDone 11 = .ok (.irem, 1) := by decide +kernel
theorem dX4_canBeDone_12 : decode cX4_canBeDone 12 = .ok (.istore_n 3, 1) := by decide +kernel
theorem dX4_canBeDone_13 : decode cX4_canBeDone 13 = .ok (.iload_n 1, 1) := by decide +kernel
theorem dX4_canBeDone_14 : decode cX4_canBeDone 14 = .ok (.sipush 1000, 3) := by decide +kernel
theorem dX4_canBeDone_17 : decode cX4_canBeDone 17 = .ok (.idiv, 1) := by decide +kernel
theorem dX4_canBeDone_18 : decode cX4_canBeDone 18 = .ok (.tableswitch 124 1 5 #[34, 44, 65, 75, 103], 34) := by decide +kernel
theorem dX4_canBeDone_52 : decode cX4_canBeDone 52 = .ok (.aload_n 0, 1) := by decide +kernel
theorem dX4_canBeDone_53 : decode cX4_canBeDone 53 = .ok (.getfield 23, 3) := by decide +kernel
theorem dX4_canBeDone_56 : decode cX4_canBeDone 56 = .ok (.iload_n 2, 1) := by decide +kernel
theorem dX4_canBeDone_57 : decode cX4_canBeDone 57 = .ok (.iload_n 3, 1) := by decide +kernel
theorem dX4_canBeDone_58 : decode cX4_canBeDone 58 = .ok (.invokevirtual 187, 3) := by decide +kernel
theorem dX4_canBeDone_61 : decode cX4_canBeDone 61 = .ok (.ireturn, 1) := by decide +kernel
theorem dX4_canBeDone_62 : decode cX4_canBeDone 62 = .ok (.iload_n 3, 1) := by decide +kernel
theorem dX4_canBeDone_63 : decode cX4_canBeDone 63 = .ok (.ifCond .ne 18, 3) := by decide +kernel
theorem dX4_canBeDone_66 : decode cX4_canBeDone 66 = .ok (.aload_n 0, 1) := by decide +kernel
theorem dX4_canBeDone_67 : decode cX4_canBeDone 67 = .ok (.getfield 23, 3) := by decide +kernel
theorem dX4_canBeDone_70 : decode cX4_canBeDone 70 = .ok (.iload_n 2, 1) := by decide +kernel
theorem dX4_canBeDone_71 : decode cX4_canBeDone 71 = .ok (.invokevirtual 190, 3) := by decide +kernel
theorem dX4_canBeDone_74 : decode cX4_canBeDone 74 = .ok (.ifCond .eq 7, 3) := by decide +kernel
theorem dX4_canBeDone_77 : decode cX4_canBeDone 77 = .ok (.iconst 1, 1) := by decide +kernel
theorem dX4_canBeDone_78 : decode cX4_canBeDone 78 = .ok (.goto 4, 3) := by decide +kernel
theorem dX4_canBeDone_81 : decode cX4_canBeDone 81 = .ok (.iconst 0, 1) := by decide +kernel
theorem dX4_canBeDone_82 : decode cX4_canBeDone 82 = .ok (.ireturn, 1) := by decide +kernel
theorem dX4_canBeDone_83 : decode cX4_canBeDone 83 = .ok (.aload_n 0, 1) := by decide +kernel
theorem dX4_canBeDone_84 : decode cX4_canBeDone 84 = .ok (.getfield 23, 3) := by decide +kernel
theorem dX4_canBeDone_87 : decode cX4_canBeDone 87 = .ok (.iload_n 2, 1) := by decide +kernel
theorem dX4_canBeDone_88 : decode cX4_canBeDone 88 = .ok (.iload_n 3, 1) := by decide +kernel
theorem dX4_canBeDone_89 : decode cX4_canBeDone 89 = .ok (.invokevirtual 193, 3) := by decide +kernel
theorem dX4_canBeDone_92 : decode cX4_canBeDone 92 = .ok (.ireturn, 1) := by decide +kernel
theorem dX4_canBeDone_93 : decode cX4_canBeDone 93 = .ok (.iload_n 3, 1) := by decide +kernel
theorem dX4_canBeDone_94 : decode cX4_canBeDone 94 = .ok (.ifCond .ne 25, 3) := by decide +kernel
theorem dX4_canBeDone_97 : decode cX4_canBeDone 97 = .ok (.iload_n 2, 1) := by decide +kernel
theorem dX4_canBeDone_98 : decode cX4_canBeDone 98 = .ok (.invokestatic 102, 3) := by decide +kernel
theorem dX4_canBeDone_101 : decode cX4_canBeDone 101 = .ok (.ifCond .eq 18, 3) := by decide +kernel
theorem dX4_canBeDone_104 : decode cX4_canBeDone 104 = .ok (.aload_n 0, 1) := by decide +kernel
theorem dX4_canBeDone_105 : decode cX4_canBeDone 105 = .ok (.getfield 23, 3) := by decide +kernel
theorem dX4_canBeDone_108 : decode cX4_canBeDone 108 = .ok (.iload_n 2, 1) := by decide +kernel
theorem dX4_canBeDone_109 : decode cX4_canBeDone 109 = .ok (.invokevirtual 105, 3) := by decide +kernel
theorem dX4_canBeDone_112 : decode cX4_canBeDone 112 = .ok (.ifCond .eq 7, 3) := by decide +kernel
theorem dX4_canBeDone_115 : decode cX4_canBeDone 115 = .ok (.iconst 1, 1) := by decide +kernel
theorem dX4_canBeDone_116 : decode cX4_canBeDone 116 = .ok (.goto 4, 3) := by decide +kernel
theorem dX4_canBeDone_119 : decode cX4_canBeDone 119 = .ok (.iconst 0, 1) := by decide +kernel
theorem dX4_canBeDone_120 : decode cX4_canBeDone 120 = .ok (.ireturn, 1) := by decide +kernel
theorem dX4_canBeDone_121 : decode cX4_canBeDone 121 = .ok (.iload_n 3, 1) := by decide +kernel
theorem dX4_canBeDone_122 : decode cX4_canBeDone 122 = .ok (.ifCond .ne 18, 3) := by decide +kernel
theorem dX4_canBeDone_125 : decode cX4_canBeDone 125 = .ok (.aload_n 0, 1) := by decide +kernel
theorem dX4_canBeDone_126 : decode cX4_canBeDone 126 = .ok (.getfield 23, 3) := by decide +kernel
theorem dX4_canBeDone_129 : decode cX4_canBeDone 129 = .ok (.invokevirtual 79, 3) := by decide +kernel
theorem dX4_canBeDone_132 : decode cX4_canBeDone 132 = .ok (.iload_n 2, 1) := by decide +kernel
theorem dX4_canBeDone_133 : decode cX4_canBeDone 133 = .ok (.if_icmp .lt 7, 3) := by decide +kernel
theorem dX4_canBeDone_136 : decode cX4_canBeDone 136 = .ok (.iconst 1, 1) := by decide +kernel
theorem dX4_canBeDone_137 : decode cX4_canBeDone 137 = .ok (.goto 4, 3) := by decide +kernel
theorem dX4_canBeDone_140 : decode cX4_canBeDone 140 = .ok (.iconst 0, 1) := by decide +kernel
theorem dX4_canBeDone_141 : decode cX4_canBeDone 141 = .ok (.ireturn, 1) := by decide +kernel
theorem dX4_canBeDone_142 : decode cX4_canBeDone 142 = .ok (.iconst 0, 1) := by decide +kernel
theorem dX4_canBeDone_143 : decode cX4_canBeDone 143 = .ok (.ireturn, 1) := by decide +kernel
theorem dX4_share_0 : decode cX4_share 0 = .ok (.iload_n 1, 1) := by decide +kernel
theorem dX4_share_1 : decode cX4_share 1 = .ok (.ifCond .lt 8, 3) := by decide +kernel
theorem dX4_share_4 : decode cX4_share 4 = .ok (.iload_n 1, 1) := by decide +kernel
theorem dX4_share_5 : decode cX4_share 5 = .ok (.iconst 4, 1) := by decide +kernel
theorem dX4_share_6 : decode cX4_share 6 = .ok (.if_icmp .lt 5, 3) := by decide +kernel
theorem dX4_share_9 : decode cX4_share 9 = .ok (.iconst (-1), 1) := by decide +kernel
theorem dX4_share_10 : decode cX4_share 10 = .ok (.ireturn, 1) := by decide +kernel
theorem dX4_share_11 : decode cX4_share 11 = .ok (.iconst 0, 1) := by decide +kernel
theorem dX4_share_12 : decode cX4_share 12 = .ok (.istore_n 3, 1) := by decide +kernel
theorem dX4_share_13 : decode cX4_share 13 = .ok (.iconst 0, 1) := by decide +kernel
theorem dX4_share_14 : decode cX4_share 14 = .ok (.istore 4, 2) := by decide +kernel
theorem dX4_share_16 : decode cX4_share 16 = .ok (.iload 4, 2) := by decide +kernel
theorem dX4_share_18 : decode cX4_share 18 = .ok (.bipush 15, 2) := by decide +kernel
theorem dX4_share_20 : decode cX4_share 20 = .ok (.if_icmp .gt 74, 3) := by decide +kernel
theorem dX4_share_23 : decode cX4_share 23 = .ok (.iload 4, 2) := by decide +kernel
theorem dX4_share_25 : decode cX4_share 25 = .ok (.iload_n 1, 1) := by decide +kernel
theorem dX4_share_26 : decode cX4_share 26 = .ok (.ishr, 1) := by decide +kernel
theorem dX4_share_27 : decode cX4_share 27 = .ok (.iconst 1, 1) := by decide +kernel
theorem dX4_share_28 : decode cX4_share 28 = .ok (.iand, 1) := by decide +kernel
theorem dX4_share_29 : decode cX4_share 29 = .ok (.ifCond .ne 59, 3) := by decide +kernel
theorem dX4_share_32 : decode cX4_share 32 = .ok (.aload_n 0, 1) := by decide +kernel
theorem dX4_share_33 : decode cX4_share 33 = .ok (.getfield 19, 3) := by decide +kernel
theorem dX4_share_36 : decode cX4_share 36 = .ok (.bipush 15, 2) := by decide +kernel
theorem dX4_share_38 : decode cX4_share 38 = .ok (.iload 4, 2) := by decide +kernel
theorem dX4_share_40 : decode cX4_share 40 = .ok (.iconst 1, 1) := by decide +kernel
theorem dX4_share_41 : decode cX4_share 41 = .ok (.iload_n 1, 1) := by decide +kernel
theorem dX4_share_42 : decode cX4_share 42 = .ok (.ishl, 1) := by decide +kernel
theorem dX4_share_43 : decode cX4_share 43 = .ok (.ior, 1) := by decide +kernel
theorem dX4_share_44 : decode cX4_share 44 = .ok (.iconst (-1), 1) := by decide +kernel
theorem dX4_share_45 : decode cX4_share 45 = .ok (.ixor, 1) := by decide +kernel
theorem dX4_share_46 : decode cX4_share 46 = .ok (.iand, 1) := by decide +kernel
theorem dX4_share_47 : decode cX4_share 47 = .ok (.invokevirtual 196, 3) := by decide +kernel
theorem dX4_share_50 : decode cX4_share 50 = .ok (.istore 5, 2) := by decide +kernel
theorem dX4_share_52 : decode cX4_share 52 = .ok (.aload_n 0, 1) := by decide +kernel
theorem dX4_share_53 : decode cX4_share 53 = .ok (.getfield 19, 3) := by decide +kernel
theorem dX4_share_56 : decode cX4_share 56 = .ok (.bipush 15, 2) := by decide +kernel
theorem dX4_share_58 : decode cX4_share 58 = .ok (.iload 4, 2) := by decide +kernel
theorem dX4_share_60 : decode cX4_share 60 = .ok (.iconst (-1), 1) := by decide +kernel
theorem dX4_share_61 : decode cX4_share 61 = .ok (.ixor, 1) := by decide +kernel
theorem dX4_share_62 : decode cX4_share 62 = .ok (.iand, 1) := by decide +kernel
theorem dX4_share_63 : decode cX4_share 63 = .ok (.invokevirtual 196, 3) := by decide +kernel
theorem dX4_share_66 : decode cX4_share 66 = .ok (.istore 6, 2) := by decide +kernel
theorem dX4_share_68 : decode cX4_share 68 = .ok (.iload_n 3, 1) := by decide +kernel
theorem dX4_share_69 : decode cX4_share 69 = .ok (.getstatic 199, 3) := by decide +kernel
theorem dX4_share_72 : decode cX4_share 72 = .ok (.iload 4, 2) := by decide +kernel
theorem dX4_share_74 : decode cX4_share 74 = .ok (.invokestatic 172, 3) := by decide +kernel
theorem dX4_share_77 : decode cX4_share 77 = .ok (.iconst 3, 1) := by decide +kernel
theorem dX4_share_78 : decode cX4_share 78 = .ok (.iand, 1) := by decide +kernel
theorem dX4_share_79 : decode cX4_share 79 = .ok (.iaload, 1) := by decide +kernel
theorem dX4_share_80 : decode cX4_share 80 = .ok (.iload 5, 2) := by decide +kernel
theorem dX4_share_82 : decode cX4_share 82 = .ok (.iload 6, 2) := by decide +kernel
theorem dX4_share_84 : decode cX4_share 84 = .ok (.isub, 1) := by decide +kernel
theorem dX4_share_85 : decode cX4_share 85 = .ok (.imul, 1) := by decide +kernel
theorem dX4_share_86 : decode cX4_share 86 = .ok (.iadd, 1) := by decide +kernel
theorem dX4_share_87 : decode cX4_share 87 = .ok (.istore_n 3, 1) := by decide +kernel
theorem dX4_share_88 : decode cX4_share 88 = .ok (.iinc 4 1, 3) := by decide +kernel
theorem dX4_share_91 : decode cX4_share 91 = .ok (.goto (-75), 3) := by decide +kernel
theorem dX4_share_94 : decode cX4_share 94 = .ok (.iload_n 3, 1) := by decide +kernel
theorem dX4_share_95 : decode cX4_share 95 = .ok (.bipush 24, 2) := by decide +kernel
theorem dX4_share_97 : decode cX4_share 97 = .ok (.iload_n 2, 1) := by decide +kernel
theorem dX4_share_98 : decode cX4_share 98 = .ok (.invokestatic 202, 3) := by decide +kernel
theorem dX4_share_101 : decode cX4_share 101 = .ok (.ireturn, 1) := by decide +kernel
theorem dX4_hold_0 : decode cX4_hold 0 = .ok (.iload_n 1, 1) := by decide +kernel
theorem dX4_hold_1 : decode cX4_hold 1 = .ok (.ifCond .lt 36, 3) := by decide +kernel
theorem dX4_hold_4 : decode cX4_hold 4 = .ok (.iload_n 1, 1) := by decide +kernel
theorem dX4_hold_5 : decode cX4_hold 5 = .ok (.iconst 1, 1) := by decide +kernel
theorem dX4_hold_6 : decode cX4_hold 6 = .ok (.if_icmp .gt 31, 3) := by decide +kernel
theorem dX4_hold_9 : decode cX4_hold 9 = .ok (.iload_n 2, 1) := by decide +kernel
theorem dX4_hold_10 : decode cX4_hold 10 = .ok (.invokestatic 144, 3) := by decide +kernel
theorem dX4_hold_13 : decode cX4_hold 13 = .ok (.ifCond .eq 24, 3) := by decide +kernel
theorem dX4_hold_16 : decode cX4_hold 16 = .ok (.iload_n 3, 1) := by decide +kernel
theorem dX4_hold_17 : decode cX4_hold 17 = .ok (.ifCond .lt 20, 3) := by decide +kernel
theorem dX4_hold_20 : decode cX4_hold 20 = .ok (.iload_n 3, 1) := by decide +kernel
theorem dX4_hold_21 : decode cX4_hold 21 = .ok (.bipush 9, 2) := by decide +kernel
theorem dX4_hold_23 : decode cX4_hold 23 = .ok (.if_icmp .gt 14, 3) := by decide +kernel
theorem dX4_hold_26 : decode cX4_hold 26 = .ok (.iload 4, 2) := by decide +kernel
theorem dX4_hold_28 : decode cX4_hold 28 = .ok (.ifCond .lt 9, 3) := by decide +kernel
theorem dX4_hold_31 : decode cX4_hold 31 = .ok (.iload 4, 2) := by decide +kernel
theorem dX4_hold_33 : decode cX4_hold 33 = .ok (.iconst 1, 1) := by decide +kernel
theorem dX4_hold_34 : decode cX4_hold 34 = .ok (.if_icmp .le 6, 3) := by decide +kernel
theorem dX4_hold_37 : decode cX4_hold 37 = .ok (.bipush (-2), 2) := by decide +kernel
theorem dX4_hold_39 : decode cX4_hold 39 = .ok (.ireturn, 1) := by decide +kernel
theorem dX4_hold_40 : decode cX4_hold 40 = .ok (.aload_n 0, 1) := by decide +kernel
theorem dX4_hold_41 : decode cX4_hold 41 = .ok (.getfield 91, 3) := by decide +kernel
theorem dX4_hold_44 : decode cX4_hold 44 = .ok (.bipush 6, 2) := by decide +kernel
theorem dX4_hold_46 : decode cX4_hold 46 = .ok (.if_icmp .lt 6, 3) := by decide +kernel
theorem dX4_hold_49 : decode cX4_hold 49 = .ok (.bipush (-4), 2) := by decide +kernel
theorem dX4_hold_51 : decode cX4_hold 51 = .ok (.ireturn, 1) := by decide +kernel
theorem dX4_hold_52 : decode cX4_hold 52 = .ok (.iload_n 2, 1) := by decide +kernel
theorem dX4_hold_53 : decode cX4_hold 53 = .ok (.bipush 8, 2) := by decide +kernel
theorem dX4_hold_55 : decode cX4_hold 55 = .ok (.iload_n 3, 1) := by decide +kernel
theorem dX4_hold_56 : decode cX4_hold 56 = .ok (.imul, 1) := by decide +kernel
theorem dX4_hold_57 : decode cX4_hold 57 = .ok (.invokestatic 206, 3) := by decide +kernel
theorem dX4_hold_60 : decode cX4_hold 60 = .ok (.istore 5, 2) := by decide +kernel
theorem dX4_hold_62 : decode cX4_hold 62 = .ok (.iload 4, 2) := by decide +kernel
theorem dX4_hold_64 : decode cX4_hold 64 = .ok (.ifCond .ne 12, 3) := by decide +kernel
theorem dX4_hold_67 : decode cX4_hold 67 = .ok (.bipush 15, 2) := by decide +kernel
theorem dX4_hold_69 : decode cX4_hold 69 = .ok (.iload 5, 2) := by decide +kernel
theorem dX4_hold_71 : decode cX4_hold 71 = .ok (.iconst (-1), 1) := by decide +kernel
theorem dX4_hold_72 : decode cX4_hold 72 = .ok (.ixor, 1) := by decide +kernel
theorem dX4_hold_73 : decode cX4_hold 73 = .ok (.iand, 1) := by decide +kernel
theorem dX4_hold_74 : decode cX4_hold 74 = .ok (.istore 5, 2) := by decide +kernel
theorem dX4_hold_76 : decode cX4_hold 76 = .ok (.iload_n 1, 1) := by decide +kernel
theorem dX4_hold_77 : decode cX4_hold 77 = .ok (.ifCond .ne 17, 3) := by decide +kernel
theorem dX4_hold_80 : decode cX4_hold 80 = .ok (.aload_n 0, 1) := by decide +kernel
theorem dX4_hold_81 : decode cX4_hold 81 = .ok (.dup, 1) := by decide +kernel
theorem dX4_hold_82 : decode cX4_hold 82 = .ok (.getfield 45, 3) := by decide +kernel
theorem dX4_hold_85 : decode cX4_hold 85 = .ok (.iload 5, 2) := by decide +kernel
theorem dX4_hold_87 : decode cX4_hold 87 = .ok (.iand, 1) := by decide +kernel
theorem dX4_hold_88 : decode cX4_hold 88 = .ok (.putfield 45, 3) := by decide +kernel
theorem dX4_hold_91 : decode cX4_hold 91 = .ok (.goto 14, 3) := by decide +kernel
theorem dX4_hold_94 : decode cX4_hold 94 = .ok (.aload_n 0, 1) := by decide +kernel
theorem dX4_hold_95 : decode cX4_hold 95 = .ok (.dup, 1) := by decide +kernel
theorem dX4_hold_96 : decode cX4_hold 96 = .ok (.getfield 49, 3) := by decide +kernel
theorem dX4_hold_99 : decode cX4_hold 99 = .ok (.iload 5, 2) := by decide +kernel
theorem dX4_hold_101 : decode cX4_hold 101 = .ok (.iand, 1) := by decide +kernel
theorem dX4_hold_102 : decode cX4_hold 102 = .ok (.putfield 49, 3) := by decide +kernel
theorem dX4_hold_105 : decode cX4_hold 105 = .ok (.aload_n 0, 1) := by decide +kernel
theorem dX4_hold_106 : decode cX4_hold 106 = .ok (.dup, 1) := by decide +kernel
theorem dX4_hold_107 : decode cX4_hold 107 = .ok (.getfield 91, 3) := by decide +kernel
theorem dX4_hold_110 : decode cX4_hold 110 = .ok (.iconst 1, 1) := by decide +kernel
theorem dX4_hold_111 : decode cX4_hold 111 = .ok (.iadd, 1) := by decide +kernel
theorem dX4_hold_112 : decode cX4_hold 112 = .ok (.putfield 91, 3) := by decide +kernel
theorem dX4_hold_115 : decode cX4_hold 115 = .ok (.aload_n 0, 1) := by decide +kernel
theorem dX4_hold_116 : decode cX4_hold 116 = .ok (.getfield 91, 3) := by decide +kernel
theorem dX4_hold_119 : decode cX4_hold 119 = .ok (.ireturn, 1) := by decide +kernel
theorem dX4_kindsThatHold_0 : decode cX4_kindsThatHold 0 = .ok (.iconst 0, 1) := by decide +kernel
theorem dX4_kindsThatHold_1 : decode cX4_kindsThatHold 1 = .ok (.istore_n 2, 1) := by decide +kernel
theorem dX4_kindsThatHold_2 : decode cX4_kindsThatHold 2 = .ok (.iconst 0, 1) := by decide +kernel
theorem dX4_kindsThatHold_3 : decode cX4_kindsThatHold 3 = .ok (.istore_n 3, 1) := by decide +kernel
theorem dX4_kindsThatHold_4 : decode cX4_kindsThatHold 4 = .ok (.iload_n 3, 1) := by decide +kernel
theorem dX4_kindsThatHold_5 : decode cX4_kindsThatHold 5 = .ok (.iconst 4, 1) := by decide +kernel
theorem dX4_kindsThatHold_6 : decode cX4_kindsThatHold 6 = .ok (.if_icmp .ge 27, 3) := by decide +kernel
theorem dX4_kindsThatHold_9 : decode cX4_kindsThatHold 9 = .ok (.iload_n 3, 1) := by decide +kernel
theorem dX4_kindsThatHold_10 : decode cX4_kindsThatHold 10 = .ok (.iload_n 1, 1) := by decide +kernel
theorem dX4_kindsThatHold_11 : decode cX4_kindsThatHold 11 = .ok (.invokestatic 209, 3) := by decide +kernel
theorem dX4_kindsThatHold_14 : decode cX4_kindsThatHold 14 = .ok (.bipush 8, 2) := by decide +kernel
theorem dX4_kindsThatHold_16 : decode cX4_kindsThatHold 16 = .ok (.iload_n 0, 1) := by decide +kernel
theorem dX4_kindsThatHold_17 : decode cX4_kindsThatHold 17 = .ok (.imul, 1) := by decide +kernel
theorem dX4_kindsThatHold_18 : decode cX4_kindsThatHold 18 = .ok (.if_icmp .lt 9, 3) := by decide +kernel
theorem dX4_kindsThatHold_21 : decode cX4_kindsThatHold 21 = .ok (.iload_n 2, 1) := by decide +kernel
theorem dX4_kindsThatHold_22 : decode cX4_kindsThatHold 22 = .ok (.iconst 1, 1) := by decide +kernel
theorem dX4_kindsThatHold_23 : decode cX4_kindsThatHold 23 = .ok (.iload_n 3, 1) := by decide +kernel
theorem dX4_kindsThatHold_24 : decode cX4_kindsThatHold 24 = .ok (.ishl, 1) := by decide +kernel
theorem dX4_kindsThatHold_25 : decode cX4_kindsThatHold 25 = .ok (.ior, 1) := by decide +kernel
theorem dX4_kindsThatHold_26 : decode cX4_kindsThatHold 26 = .ok (.istore_n 2, 1) := by decide +kernel
theorem dX4_kindsThatHold_27 : decode cX4_kindsThatHold 27 = .ok (.iinc 3 1, 3) := by decide +kernel
theorem dX4_kindsThatHold_30 : decode cX4_kindsThatHold 30 = .ok (.goto (-26), 3) := by decide +kernel
theorem dX4_kindsThatHold_33 : decode cX4_kindsThatHold 33 = .ok (.iload_n 2, 1) := by decide +kernel
theorem dX4_kindsThatHold_34 : decode cX4_kindsThatHold 34 = .ok (.ireturn, 1) := by decide +kernel
theorem dX4_unhold_0 : decode cX4_unhold 0 = .ok (.aload_n 0, 1) := by decide +kernel
theorem dX4_unhold_1 : decode cX4_unhold 1 = .ok (.getfield 91, 3) := by decide +kernel
theorem dX4_unhold_4 : decode cX4_unhold 4 = .ok (.istore_n 1, 1) := by decide +kernel
theorem dX4_unhold_5 : decode cX4_unhold 5 = .ok (.aload_n 0, 1) := by decide +kernel
theorem dX4_unhold_6 : decode cX4_unhold 6 = .ok (.iconst 0, 1) := by decide +kernel
theorem dX4_unhold_7 : decode cX4_unhold 7 = .ok (.putfield 91, 3) := by decide +kernel
theorem dX4_unhold_10 : decode cX4_unhold 10 = .ok (.aload_n 0, 1) := by decide +kernel
theorem dX4_unhold_11 : decode cX4_unhold 11 = .ok (.bipush 15, 2) := by decide +kernel
theorem dX4_unhold_13 : decode cX4_unhold 13 = .ok (.putfield 45, 3) := by decide +kernel
theorem dX4_unhold_16 : decode cX4_unhold 16 = .ok (.aload_n 0, 1) := by decide +kernel
theorem dX4_unhold_17 : decode cX4_unhold 17 = .ok (.bipush 15, 2) := by decide +kernel
theorem dX4_unhold_19 : decode cX4_unhold 19 = .ok (.putfield 49, 3) := by decide +kernel
theorem dX4_unhold_22 : decode cX4_unhold 22 = .ok (.iload_n 1, 1) := by decide +kernel
theorem dX4_unhold_23 : decode cX4_unhold 23 = .ok (.ireturn, 1) := by decide +kernel
theorem dX4_tents_0 : decode cX4_tents 0 = .ok (.iload_n 1, 1) := by decide +kernel
theorem dX4_tents_1 : decode cX4_tents 1 = .ok (.ifCond .lt 8, 3) := by decide +kernel
theorem dX4_tents_4 : decode cX4_tents 4 = .ok (.iload_n 1, 1) := by decide +kernel
theorem dX4_tents_5 : decode cX4_tents 5 = .ok (.iconst 1, 1) := by decide +kernel
theorem dX4_tents_6 : decode cX4_tents 6 = .ok (.if_icmp .le 6, 3) := by decide +kernel
theorem dX4_tents_9 : decode cX4_tents 9 = .ok (.bipush (-2), 2) := by decide +kernel
theorem dX4_tents_11 : decode cX4_tents 11 = .ok (.ireturn, 1) := by decide +kernel
theorem dX4_tents_12 : decode cX4_tents 12 = .ok (.iload_n 1, 1) := by decide +kernel
theorem dX4_tents_13 : decode cX4_tents 13 = .ok (.ifCond .ne 19, 3) := by decide +kernel
theorem dX4_tents_16 : decode cX4_tents 16 = .ok (.aload_n 0, 1) := by decide +kernel
theorem dX4_tents_17 : decode cX4_tents 17 = .ok (.getfield 45, 3) := by decide +kernel
theorem dX4_tents_20 : decode cX4_tents 20 = .ok (.invokestatic 172, 3) := by decide +kernel
theorem dX4_tents_23 : decode cX4_tents 23 = .ok (.aload_n 0, 1) := by decide +kernel
theorem dX4_tents_24 : decode cX4_tents 24 = .ok (.getfield 49, 3) := by decide +kernel
theorem dX4_tents_27 : decode cX4_tents 27 = .ok (.invokestatic 172, 3) := by decide +kernel
theorem dX4_tents_30 : decode cX4_tents 30 = .ok (.imul, 1) := by decide +kernel
theorem dX4_tents_31 : decode cX4_tents 31 = .ok (.ireturn, 1) := by decide +kernel
theorem dX4_tents_32 : decode cX4_tents 32 = .ok (.aload_n 0, 1) := by decide +kernel
theorem dX4_tents_33 : decode cX4_tents 33 = .ok (.getfield 45, 3) := by decide +kernel
theorem dX4_tents_36 : decode cX4_tents 36 = .ok (.ifCond .eq 10, 3) := by decide +kernel
theorem dX4_tents_39 : decode cX4_tents 39 = .ok (.aload_n 0, 1) := by decide +kernel
theorem dX4_tents_40 : decode cX4_tents 40 = .ok (.getfield 49, 3) := by decide +kernel
theorem dX4_tents_43 : decode cX4_tents 43 = .ok (.ifCond .ne 6, 3) := by decide +kernel
theorem dX4_tents_46 : decode cX4_tents 46 = .ok (.bipush (-9), 2) := by decide +kernel
theorem dX4_tents_48 : decode cX4_tents 48 = .ok (.ireturn, 1) := by decide +kernel
theorem dX4_tents_49 : decode cX4_tents 49 = .ok (.bipush 10, 2) := by decide +kernel
theorem dX4_tents_51 : decode cX4_tents 51 = .ok (.aload_n 0, 1) := by decide +kernel
theorem dX4_tents_52 : decode cX4_tents 52 = .ok (.getfield 45, 3) := by decide +kernel
theorem dX4_tents_55 : decode cX4_tents 55 = .ok (.invokestatic 212, 3) := by decide +kernel
theorem dX4_tents_58 : decode cX4_tents 58 = .ok (.imul, 1) := by decide +kernel
theorem dX4_tents_59 : decode cX4_tents 59 = .ok (.aload_n 0, 1) := by decide +kernel
theorem dX4_tents_60 : decode cX4_tents 60 = .ok (.getfield 49, 3) := by decide +kernel
theorem dX4_tents_63 : decode cX4_tents 63 = .ok (.invokestatic 212, 3) := by decide +kernel
theorem dX4_tents_66 : decode cX4_tents 66 = .ok (.iadd, 1) := by decide +kernel
theorem dX4_tents_67 : decode cX4_tents 67 = .ok (.ireturn, 1) := by decide +kernel
theorem dX4_rests_0 : decode cX4_rests 0 = .ok (.iload_n 1, 1) := by decide +kernel
theorem dX4_rests_1 : decode cX4_rests 1 = .ok (.invokestatic 102, 3) := by decide +kernel
theorem dX4_rests_4 : decode cX4_rests 4 = .ok (.ifCond .eq 10, 3) := by decide +kernel
theorem dX4_rests_7 : decode cX4_rests 7 = .ok (.iload_n 2, 1) := by decide +kernel
theorem dX4_rests_8 : decode cX4_rests 8 = .ok (.invokestatic 102, 3) := by decide +kernel
theorem dX4_rests_11 : decode cX4_rests 11 = .ok (.ifCond .ne 5, 3) := by decide +kernel
theorem dX4_rests_14 : decode cX4_rests 14 = .ok (.iconst (-1), 1) := by decide +kernel
theorem dX4_rests_15 : decode cX4_rests 15 = .ok (.ireturn, 1) := by decide +kernel
theorem dX4_rests_16 : decode cX4_rests 16 = .ok (.iload_n 1, 1) := by decide +kernel
theorem dX4_rests_17 : decode cX4_rests 17 = .ok (.iload_n 2, 1) := by decide +kernel
theorem dX4_rests_18 : decode cX4_rests 18 = .ok (.if_icmp .eq 12, 3) := by decide +kernel
theorem dX4_rests_21 : decode cX4_rests 21 = .ok (.iload_n 3, 1) := by decide +kernel
theorem dX4_rests_22 : decode cX4_rests 22 = .ok (.ifCond .lt 8, 3) := by decide +kernel
theorem dX4_rests_25 : decode cX4_rests 25 = .ok (.iload_n 3, 1) := by decide +kernel
theorem dX4_rests_26 : decode cX4_rests 26 = .ok (.iconst 1, 1) := by decide +kernel
theorem dX4_rests_27 : decode cX4_rests 27 = .ok (.if_icmp .le 6, 3) := by decide +kernel
theorem dX4_rests_30 : decode cX4_rests 30 = .ok (.bipush (-2), 2) := by decide +kernel
theorem dX4_rests_32 : decode cX4_rests 32 = .ok (.ireturn, 1) := by decide +kernel
theorem dX4_rests_33 : decode cX4_rests 33 = .ok (.aload_n 0, 1) := by decide +kernel
theorem dX4_rests_34 : decode cX4_rests 34 = .ok (.getfield 19, 3) := by decide +kernel
theorem dX4_rests_37 : decode cX4_rests 37 = .ok (.iload_n 1, 1) := by decide +kernel
theorem dX4_rests_38 : decode cX4_rests 38 = .ok (.invokevirtual 105, 3) := by decide +kernel
theorem dX4_rests_41 : decode cX4_rests 41 = .ok (.ifCond .ne 14, 3) := by decide +kernel
theorem dX4_rests_44 : decode cX4_rests 44 = .ok (.aload_n 0, 1) := by decide +kernel
theorem dX4_rests_45 : decode cX4_rests 45 = .ok (.getfield 19, 3) := by decide +kernel
theorem dX4_rests_48 : decode cX4_rests 48 = .ok (.iload_n 2, 1) := by decide +kernel
theorem dX4_rests_49 : decode cX4_rests 49 = .ok (.invokevirtual 105, 3) := by decide +kernel
theorem dX4_rests_52 : decode cX4_rests 52 = .ok (.ifCond .eq 6, 3) := by decide +kernel
theorem dX4_rests_55 : decode cX4_rests 55 = .ok (.bipush (-3), 2) := by decide +kernel
theorem dX4_rests_57 : decode cX4_rests 57 = .ok (.ireturn, 1) := by decide +kernel
theorem dX4_rests_58 : decode cX4_rests 58 = .ok (.iconst 0, 1) := by decide +kernel
theorem dX4_rests_59 : decode cX4_rests 59 = .ok (.istore 4, 2) := by decide +kernel
theorem dX4_rests_61 : decode cX4_rests 61 = .ok (.iload 4, 2) := by decide +kernel
theorem dX4_rests_63 : decode cX4_rests 63 = .ok (.iconst 5, 1) := by decide +kernel
theorem dX4_rests_64 : decode cX4_rests 64 = .ok (.if_icmp .ge 82, 3) := by decide +kernel
theorem dX4_rests_67 : decode cX4_rests 67 = .ok (.iconst 0, 1) := by decide +kernel
theorem dX4_rests_68 : decode cX4_rests 68 = .ok (.istore 5, 2) := by decide +kernel
theorem dX4_rests_70 : decode cX4_rests 70 = .ok (.iload 5, 2) := by decide +kernel
theorem dX4_rests_72 : decode cX4_rests 72 = .ok (.iconst 5, 1) := by decide +kernel
theorem dX4_rests_73 : decode cX4_rests 73 = .ok (.if_icmp .ge 67, 3) := by decide +kernel
theorem dX4_rests_76 : decode cX4_rests 76 = .ok (.aload_n 0, 1) := by decide +kernel
theorem dX4_rests_77 : decode cX4_rests 77 = .ok (.getfield 23, 3) := by decide +kernel
theorem dX4_rests_80 : decode cX4_rests 80 = .ok (.aload_n 0, 1) := by decide +kernel
theorem dX4_rests_81 : decode cX4_rests 81 = .ok (.getfield 19, 3) := by decide +kernel
theorem dX4_rests_84 : decode cX4_rests 84 = .ok (.invokevirtual 69, 3) := by decide +kernel
theorem dX4_rests_87 : decode cX4_rests 87 = .ok (.aload_n 0, 1) := by decide +kernel
theorem dX4_rests_88 : decode cX4_rests 88 = .ok (.getfield 23, 3) := by decide +kernel
theorem dX4_rests_91 : decode cX4_rests 91 = .ok (.iload_n 1, 1) := by decide +kernel
theorem dX4_rests_92 : decode cX4_rests 92 = .ok (.iload 4, 2) := by decide +kernel
theorem dX4_rests_94 : decode cX4_rests 94 = .ok (.invokevirtual 187, 3) := by decide +kernel
theorem dX4_rests_97 : decode cX4_rests 97 = .ok (.pop, 1) := by decide +kernel
theorem dX4_rests_98 : decode cX4_rests 98 = .ok (.aload_n 0, 1) := by decide +kernel
theorem dX4_rests_99 : decode cX4_rests 99 = .ok (.getfield 23, 3) := by decide +kernel
theorem dX4_rests_102 : decode cX4_rests 102 = .ok (.iload_n 2, 1) := by decide +kernel
theorem dX4_rests_103 : decode cX4_rests 103 = .ok (.iload 5, 2) := by decide +kernel
theorem dX4_rests_105 : decode cX4_rests 105 = .ok (.invokevirtual 187, 3) := by decide +kernel
theorem dX4_rests_108 : decode cX4_rests 108 = .ok (.pop, 1) := by decide +kernel
theorem dX4_rests_109 : decode cX4_rests 109 = .ok (.aload_n 0, 1) := by decide +kernel
theorem dX4_rests_110 : decode cX4_rests 110 = .ok (.getfield 41, 3) := by decide +kernel
theorem dX4_rests_113 : decode cX4_rests 113 = .ok (.iload 4, 2) := by decide +kernel
theorem dX4_rests_115 : decode cX4_rests 115 = .ok (.iload 5, 2) := by decide +kernel
theorem dX4_rests_117 : decode cX4_rests 117 = .ok (.aload_n 0, 1) := by decide +kernel
theorem dX4_rests_118 : decode cX4_rests 118 = .ok (.iload_n 1, 1) := by decide +kernel
theorem dX4_rests_119 : decode cX4_rests 119 = .ok (.iload 4, 2) := by decide +kernel
theorem dX4_rests_121 : decode cX4_rests 121 = .ok (.invokevirtual 215, 3) := by decide +kernel
theorem dX4_rests_124 : decode cX4_rests 124 = .ok (.aload_n 0, 1) := by decide +kernel
theorem dX4_rests_125 : decode cX4_rests 125 = .ok (.iload_n 2, 1) := by decide +kernel
theorem dX4_rests_126 : decode cX4_rests 126 = .ok (.iload 5, 2) := by decide +kernel
theorem dX4_rests_128 : decode cX4_rests 128 = .ok (.invokevirtual 215, 3) := by decide +kernel
theorem dX4_rests_131 : decode cX4_rests 131 = .ok (.invokevirtual 218, 3) := by decide +kernel
theorem dX4_rests_134 : decode cX4_rests 134 = .ok (.iinc 5 1, 3) := by decide +kernel
theorem dX4_rests_137 : decode cX4_rests 137 = .ok (.goto (-67), 3) := by decide +kernel
theorem dX4_rests_140 : decode cX4_rests 140 = .ok (.iinc 4 1, 3) := by decide +kernel
theorem dX4_rests_143 : decode cX4_rests 143 = .ok (.goto (-82), 3) := by decide +kernel
theorem dX4_rests_146 : decode cX4_rests 146 = .ok (.iload_n 3, 1) := by decide +kernel
theorem dX4_rests_147 : decode cX4_rests 147 = .ok (.ifCond .ne 13, 3) := by decide +kernel
theorem dX4_rests_150 : decode cX4_rests 150 = .ok (.aload_n 0, 1) := by decide +kernel
theorem dX4_rests_151 : decode cX4_rests 151 = .ok (.getfield 41, 3) := by decide +kernel
theorem dX4_rests_154 : decode cX4_rests 154 = .ok (.invokevirtual 222, 3) := by decide +kernel
theorem dX4_rests_157 : decode cX4_rests 157 = .ok (.goto 10, 3) := by decide +kernel
theorem dX4_rests_160 : decode cX4_rests 160 = .ok (.aload_n 0, 1) := by decide +kernel
theorem dX4_rests_161 : decode cX4_rests 161 = .ok (.getfield 41, 3) := by decide +kernel
theorem dX4_rests_164 : decode cX4_rests 164 = .ok (.invokevirtual 225, 3) := by decide +kernel
theorem dX4_rests_167 : decode cX4_rests 167 = .ok (.ireturn, 1) := by decide +kernel
theorem dX4_gain_0 : decode cX4_gain 0 = .ok (.aload_n 0, 1) := by decide +kernel
theorem dX4_gain_1 : decode cX4_gain 1 = .ok (.getfield 23, 3) := by decide +kernel
theorem dX4_gain_4 : decode cX4_gain 4 = .ok (.invokevirtual 79, 3) := by decide +kernel
theorem dX4_gain_7 : decode cX4_gain 7 = .ok (.aload_n 0, 1) := by decide +kernel
theorem dX4_gain_8 : decode cX4_gain 8 = .ok (.getfield 23, 3) := by decide +kernel
theorem dX4_gain_11 : decode cX4_gain 11 = .ok (.iload_n 1, 1) := by decide +kernel
theorem dX4_gain_12 : decode cX4_gain 12 = .ok (.invokevirtual 105, 3) := by decide +kernel
theorem dX4_gain_15 : decode cX4_gain 15 = .ok (.ifCond .eq 7, 3) := by decide +kernel
theorem dX4_gain_18 : decode cX4_gain 18 = .ok (.iconst 2, 1) := by decide +kernel
theorem dX4_gain_19 : decode cX4_gain 19 = .ok (.goto 4, 3) := by decide +kernel
theorem dX4_gain_22 : decode cX4_gain 22 = .ok (.iconst 0, 1) := by decide +kernel
theorem dX4_gain_23 : decode cX4_gain 23 = .ok (.iadd, 1) := by decide +kernel
theorem dX4_gain_24 : decode cX4_gain 24 = .ok (.iload_n 2, 1) := by decide +kernel
theorem dX4_gain_25 : decode cX4_gain 25 = .ok (.iconst 4, 1) := by decide +kernel
theorem dX4_gain_26 : decode cX4_gain 26 = .ok (.if_icmp .ne 7, 3) := by decide +kernel
theorem dX4_gain_29 : decode cX4_gain 29 = .ok (.iconst 0, 1) := by decide +kernel
theorem dX4_gain_30 : decode cX4_gain 30 = .ok (.goto 4, 3) := by decide +kernel
theorem dX4_gain_33 : decode cX4_gain 33 = .ok (.iconst 1, 1) := by decide +kernel
theorem dX4_gain_34 : decode cX4_gain 34 = .ok (.isub, 1) := by decide +kernel
theorem dX4_gain_35 : decode cX4_gain 35 = .ok (.ireturn, 1) := by decide +kernel
theorem dX4_shaken_0 : decode cX4_shaken 0 = .ok (.iload_n 1, 1) := by decide +kernel
theorem dX4_shaken_1 : decode cX4_shaken 1 = .ok (.ifCond .lt 19, 3) := by decide +kernel
theorem dX4_shaken_4 : decode cX4_shaken 4 = .ok (.iload_n 1, 1) := by decide +kernel
theorem dX4_shaken_5 : decode cX4_shaken 5 = .ok (.bipush 16, 2) := by decide +kernel
theorem dX4_shaken_7 : decode cX4_shaken 7 = .ok (.if_icmp .gt 13, 3) := by decide +kernel
theorem dX4_shaken_10 : decode cX4_shaken 10 = .ok (.iload_n 2, 1) := by decide +kernel
theorem dX4_shaken_11 : decode cX4_shaken 11 = .ok (.ifCond .lt 9, 3) := by decide +kernel
theorem dX4_shaken_14 : decode cX4_shaken 14 = .ok (.iload_n 2, 1) := by decide +kernel
theorem dX4_shaken_15 : decode cX4_shaken 15 = .ok (.bipush 10, 2) := by decide +kernel
theorem dX4_shaken_17 : decode cX4_shaken 17 = .ok (.if_icmp .le 6, 3) := by decide +kernel
theorem dX4_shaken_20 : decode cX4_shaken 20 = .ok (.bipush (-2), 2) := by decide +kernel
theorem dX4_shaken_22 : decode cX4_shaken 22 = .ok (.ireturn, 1) := by decide +kernel
theorem dX4_shaken_23 : decode cX4_shaken 23 = .ok (.aload_n 0, 1) := by decide +kernel
theorem dX4_shaken_24 : decode cX4_shaken 24 = .ok (.getfield 19, 3) := by decide +kernel
theorem dX4_shaken_27 : decode cX4_shaken 27 = .ok (.getfield 82, 3) := by decide +kernel
theorem dX4_shaken_30 : decode cX4_shaken 30 = .ok (.bipush 15, 2) := by decide +kernel
theorem dX4_shaken_32 : decode cX4_shaken 32 = .ok (.iand, 1) := by decide +kernel
theorem dX4_shaken_33 : decode cX4_shaken 33 = .ok (.istore 4, 2) := by decide +kernel
theorem dX4_shaken_35 : decode cX4_shaken 35 = .ok (.iconst 0, 1) := by decide +kernel
theorem dX4_shaken_36 : decode cX4_shaken 36 = .ok (.istore 5, 2) := by decide +kernel
theorem dX4_shaken_38 : decode cX4_shaken 38 = .ok (.iconst 0, 1) := by decide +kernel
theorem dX4_shaken_39 : decode cX4_shaken 39 = .ok (.istore 6, 2) := by decide +kernel
theorem dX4_shaken_41 : decode cX4_shaken 41 = .ok (.iload 6, 2) := by decide +kernel
theorem dX4_shaken_43 : decode cX4_shaken 43 = .ok (.bipush 15, 2) := by decide +kernel
theorem dX4_shaken_45 : decode cX4_shaken 45 = .ok (.if_icmp .gt 64, 3) := by decide +kernel
theorem dX4_shaken_48 : decode cX4_shaken 48 = .ok (.iload 6, 2) := by decide +kernel
theorem dX4_shaken_50 : decode cX4_shaken 50 = .ok (.iload 4, 2) := by decide +kernel
theorem dX4_shaken_52 : decode cX4_shaken 52 = .ok (.iconst (-1), 1) := by decide +kernel
theorem dX4_shaken_53 : decode cX4_shaken 53 = .ok (.ixor, 1) := by decide +kernel
theorem dX4_shaken_54 : decode cX4_shaken 54 = .ok (.iand, 1) := by decide +kernel
theorem dX4_shaken_55 : decode cX4_shaken 55 = .ok (.ifCond .ne 48, 3) := by decide +kernel
theorem dX4_shaken_58 : decode cX4_shaken 58 = .ok (.aload_n 0, 1) := by decide +kernel
theorem dX4_shaken_59 : decode cX4_shaken 59 = .ok (.getfield 19, 3) := by decide +kernel
theorem dX4_shaken_62 : decode cX4_shaken 62 = .ok (.iload 6, 2) := by decide +kernel
theorem dX4_shaken_64 : decode cX4_shaken 64 = .ok (.invokevirtual 196, 3) := by decide +kernel
theorem dX4_shaken_67 : decode cX4_shaken 67 = .ok (.iload_n 1, 1) := by decide +kernel
theorem dX4_shaken_68 : decode cX4_shaken 68 = .ok (.if_icmp .lt 35, 3) := by decide +kernel
theorem dX4_shaken_71 : decode cX4_shaken 71 = .ok (.iload 5, 2) := by decide +kernel
theorem dX4_shaken_73 : decode cX4_shaken 73 = .ok (.iload_n 2, 1) := by decide +kernel
theorem dX4_shaken_74 : decode cX4_shaken 74 = .ok (.iload 6, 2) := by decide +kernel
theorem dX4_shaken_76 : decode cX4_shaken 76 = .ok (.invokestatic 172, 3) := by decide +kernel
theorem dX4_shaken_79 : decode cX4_shaken 79 = .ok (.invokestatic 228, 3) := by decide +kernel
theorem dX4_shaken_82 : decode cX4_shaken 82 = .ok (.bipush 10, 2) := by decide +kernel
theorem dX4_shaken_84 : decode cX4_shaken 84 = .ok (.iload_n 2, 1) := by decide +kernel
theorem dX4_shaken_85 : decode cX4_shaken 85 = .ok (.isub, 1) := by decide +kernel
theorem dX4_shaken_86 : decode cX4_shaken 86 = .ok (.iload 4, 2) := by decide +kernel
theorem dX4_shaken_88 : decode cX4_shaken 88 = .ok (.iload 6, 2) := by decide +kernel
theorem dX4_shaken_90 : decode cX4_shaken 90 = .ok (.iconst (-1), 1) := by decide +kernel
theorem dX4_shaken_91 : decode cX4_shaken 91 = .ok (.ixor, 1) := by decide +kernel
theorem dX4_shaken_92 : decode cX4_shaken 92 = .ok (.iand, 1) := by decide +kernel
theorem dX4_shaken_93 : decode cX4_shaken 93 = .ok (.invokestatic 172, 3) := by decide +kernel
theorem dX4_shaken_96 : decode cX4_shaken 96 = .ok (.invokestatic 228, 3) := by decide +kernel
theorem dX4_shaken_99 : decode cX4_shaken 99 = .ok (.imul, 1) := by decide +kernel
theorem dX4_shaken_100 : decode cX4_shaken 100 = .ok (.iadd, 1) := by decide +kernel
theorem dX4_shaken_101 : decode cX4_shaken 101 = .ok (.istore 5, 2) := by decide +kernel
theorem dX4_shaken_103 : decode cX4_shaken 103 = .ok (.iinc 6 1, 3) := by decide +kernel
theorem dX4_shaken_106 : decode cX4_shaken 106 = .ok (.goto (-65), 3) := by decide +kernel
theorem dX4_shaken_109 : decode cX4_shaken 109 = .ok (.iload 5, 2) := by decide +kernel
theorem dX4_shaken_111 : decode cX4_shaken 111 = .ok (.bipush 10, 2) := by decide +kernel
theorem dX4_shaken_113 : decode cX4_shaken 113 = .ok (.iload 4, 2) := by decide +kernel
theorem dX4_shaken_115 : decode cX4_shaken 115 = .ok (.invokestatic 172, 3) := by decide +kernel
theorem dX4_shaken_118 : decode cX4_shaken 118 = .ok (.invokestatic 228, 3) := by decide +kernel
theorem dX4_shaken_121 : decode cX4_shaken 121 = .ok (.iload_n 3, 1) := by decide +kernel
theorem dX4_shaken_122 : decode cX4_shaken 122 = .ok (.invokestatic 202, 3) := by decide +kernel
theorem dX4_shaken_125 : decode cX4_shaken 125 = .ok (.ireturn, 1) := by decide +kernel
theorem dX4_seed_0 : decode cX4_seed 0 = .ok (.aload_n 0, 1) := by decide +kernel
theorem dX4_seed_1 : decode cX4_seed 1 = .ok (.getfield 231, 3) := by decide +kernel
theorem dX4_seed_4 : decode cX4_seed 4 = .ok (.lstore_n 3, 1) := by decide +kernel
theorem dX4_seed_5 : decode cX4_seed 5 = .ok (.aload_n 0, 1) := by decide +kernel
theorem dX4_seed_6 : decode cX4_seed 6 = .ok (.lload_n 1, 1) := by decide +kernel
theorem dX4_seed_7 : decode cX4_seed 7 = .ok (.putfield 231, 3) := by decide +kernel
theorem dX4_seed_10 : decode cX4_seed 10 = .ok (.lload_n 3, 1) := by decide +kernel
theorem dX4_seed_11 : decode cX4_seed 11 = .ok (.lreturn, 1) := by decide +kernel
theorem dX4_evenings_0 : decode cX4_evenings 0 = .ok (.iload_n 1, 1) := by decide +kernel
theorem dX4_evenings_1 : decode cX4_evenings 1 = .ok (.iconst 1, 1) := by decide +kernel
theorem dX4_evenings_2 : decode cX4_evenings 2 = .ok (.if_icmp .lt 9, 3) := by decide +kernel
theorem dX4_evenings_5 : decode cX4_evenings 5 = .ok (.iload_n 1, 1) := by decide +kernel
theorem dX4_evenings_6 : decode cX4_evenings 6 = .ok (.bipush 30, 2) := by decide +kernel
theorem dX4_evenings_8 : decode cX4_evenings 8 = .ok (.if_icmp .le 6, 3) := by decide +kernel
theorem dX4_evenings_11 : decode cX4_evenings 11 = .ok (.bipush (-2), 2) := by decide +kernel
theorem dX4_evenings_13 : decode cX4_evenings 13 = .ok (.ireturn, 1) := by decide +kernel
theorem dX4_evenings_14 : decode cX4_evenings 14 = .ok (.aload_n 0, 1) := by decide +kernel
theorem dX4_evenings_15 : decode cX4_evenings 15 = .ok (.getfield 23, 3) := by decide +kernel
theorem dX4_evenings_18 : decode cX4_evenings 18 = .ok (.aload_n 0, 1) := by decide +kernel
theorem dX4_evenings_19 : decode cX4_evenings 19 = .ok (.getfield 19, 3) := by decide +kernel
theorem dX4_evenings_22 : decode cX4_evenings 22 = .ok (.invokevirtual 69, 3) := by decide +kernel
theorem dX4_evenings_25 : decode cX4_evenings 25 = .ok (.iconst 0, 1) := by decide +kernel
theorem dX4_evenings_26 : decode cX4_evenings 26 = .ok (.istore_n 2, 1) := by decide +kernel
theorem dX4_evenings_27 : decode cX4_evenings 27 = .ok (.iconst 0, 1) := by decide +kernel
theorem dX4_evenings_28 : decode cX4_evenings 28 = .ok (.istore_n 3, 1) := by decide +kernel
theorem dX4_evenings_29 : decode cX4_evenings 29 = .ok (.iload_n 3, 1) := by decide +kernel
theorem dX4_evenings_30 : decode cX4_evenings 30 = .ok (.iload_n 1, 1) := by decide +kernel
theorem dX4_evenings_31 : decode cX4_evenings 31 = .ok (.if_icmp .ge 51, 3) := by decide +kernel
theorem dX4_evenings_34 : decode cX4_evenings 34 = .ok (.aload_n 0, 1) := by decide +kernel
theorem dX4_evenings_35 : decode cX4_evenings 35 = .ok (.aload_n 0, 1) := by decide +kernel
theorem dX4_evenings_36 : decode cX4_evenings 36 = .ok (.getfield 231, 3) := by decide +kernel
theorem dX4_evenings_39 : decode cX4_evenings 39 = .ok (.ldc2_w 235, 3) := by decide +kernel
theorem dX4_evenings_42 : decode cX4_evenings 42 = .ok (.lmul, 1) := by decide +kernel
theorem dX4_evenings_43 : decode cX4_evenings 43 = .ok (.ldc2_w 237, 3) := by decide +kernel
theorem dX4_evenings_46 : decode cX4_evenings 46 = .ok (.ladd, 1) := by decide +kernel
theorem dX4_evenings_47 : decode cX4_evenings 47 = .ok (.putfield 231, 3) := by decide +kernel
theorem dX4_evenings_50 : decode cX4_evenings 50 = .ok (.aload_n 0, 1) := by decide +kernel
theorem dX4_evenings_51 : decode cX4_evenings 51 = .ok (.aload_n 0, 1) := by decide +kernel
theorem dX4_evenings_52 : decode cX4_evenings 52 = .ok (.getfield 231, 3) := by decide +kernel
theorem dX4_evenings_55 : decode cX4_evenings 55 = .ok (.bipush 33, 2) := by decide +kernel
theorem dX4_evenings_57 : decode cX4_evenings 57 = .ok (.lushr, 1) := by decide +kernel
theorem dX4_evenings_58 : decode cX4_evenings 58 = .ok (.ldc2_w 239, 3) := by decide +kernel
theorem dX4_evenings_61 : decode cX4_evenings 61 = .ok (.lrem, 1) := by decide +kernel
theorem dX4_evenings_62 : decode cX4_evenings 62 = .ok (.l2i, 1) := by decide +kernel
theorem dX4_evenings_63 : decode cX4_evenings 63 = .ok (.invokevirtual 241, 3) := by decide +kernel
theorem dX4_evenings_66 : decode cX4_evenings 66 = .ok (.iload_n 2, 1) := by decide +kernel
theorem dX4_evenings_67 : decode cX4_evenings 67 = .ok (.aload_n 0, 1) := by decide +kernel
theorem dX4_evenings_68 : decode cX4_evenings 68 = .ok (.getfield 23, 3) := by decide +kernel
theorem dX4_evenings_71 : decode cX4_evenings 71 = .ok (.invokevirtual 79, 3) := by decide +kernel
theorem dX4_evenings_74 : decode cX4_evenings 74 = .ok (.iadd, 1) := by decide +kernel
theorem dX4_evenings_75 : decode cX4_evenings 75 = .ok (.istore_n 2, 1) := by decide +kernel
theorem dX4_evenings_76 : decode cX4_evenings 76 = .ok (.iinc 3 1, 3) := by decide +kernel
theorem dX4_evenings_79 : decode cX4_evenings 79 = .ok (.goto (-50), 3) := by decide +kernel
theorem dX4_evenings_82 : decode cX4_evenings 82 = .ok (.iload_n 2, 1) := by decide +kernel
theorem dX4_evenings_83 : decode cX4_evenings 83 = .ok (.ireturn, 1) := by decide +kernel
theorem dX4_passEvening_0 : decode cX4_passEvening 0 = .ok (.iload_n 1, 1) := by decide +kernel
theorem dX4_passEvening_1 : decode cX4_passEvening 1 = .ok (.bipush 64, 2) := by decide +kernel
theorem dX4_passEvening_3 : decode cX4_passEvening 3 = .ok (.if_icmp .ge 20, 3) := by decide +kernel
theorem dX4_passEvening_6 : decode cX4_passEvening 6 = .ok (.aload_n 0, 1) := by decide +kernel
theorem dX4_passEvening_7 : decode cX4_passEvening 7 = .ok (.getfield 23, 3) := by decide +kernel
theorem dX4_passEvening_10 : decode cX4_passEvening 10 = .ok (.iload_n 1, 1) := by decide +kernel
theorem dX4_passEvening_11 : decode cX4_passEvening 11 = .ok (.iconst 4, 1) := by decide +kernel
theorem dX4_passEvening_12 : decode cX4_passEvening 12 = .ok (.idiv, 1) := by decide +kernel
theorem dX4_passEvening_13 : decode cX4_passEvening 13 = .ok (.iload_n 1, 1) := by decide +kernel
theorem dX4_passEvening_14 : decode cX4_passEvening 14 = .ok (.iconst 4, 1) := by decide +kernel
theorem dX4_passEvening_15 : decode cX4_passEvening 15 = .ok (.irem, 1) := by decide +kernel
theorem dX4_passEvening_16 : decode cX4_passEvening 16 = .ok (.invokevirtual 187, 3) := by decide +kernel
theorem dX4_passEvening_19 : decode cX4_passEvening 19 = .ok (.pop, 1) := by decide +kernel
theorem dX4_passEvening_20 : decode cX4_passEvening 20 = .ok (.goto 46, 3) := by decide +kernel
theorem dX4_passEvening_23 : decode cX4_passEvening 23 = .ok (.iload_n 1, 1) := by decide +kernel
theorem dX4_passEvening_24 : decode cX4_passEvening 24 = .ok (.bipush 76, 2) := by decide +kernel
theorem dX4_passEvening_26 : decode cX4_passEvening 26 = .ok (.if_icmp .ge 28, 3) := by decide +kernel
theorem dX4_passEvening_29 : decode cX4_passEvening 29 = .ok (.aload_n 0, 1) := by decide +kernel
theorem dX4_passEvening_30 : decode cX4_passEvening 30 = .ok (.getfield 23, 3) := by decide +kernel
theorem dX4_passEvening_33 : decode cX4_passEvening 33 = .ok (.iload_n 1, 1) := by decide +kernel
theorem dX4_passEvening_34 : decode cX4_passEvening 34 = .ok (.bipush 64, 2) := by decide +kernel
theorem dX4_passEvening_36 : decode cX4_passEvening 36 = .ok (.isub, 1) := by decide +kernel
theorem dX4_passEvening_37 : decode cX4_passEvening 37 = .ok (.iconst 3, 1) := by decide +kernel
theorem dX4_passEvening_38 : decode cX4_passEvening 38 = .ok (.idiv, 1) := by decide +kernel
theorem dX4_passEvening_39 : decode cX4_passEvening 39 = .ok (.iconst 2, 1) := by decide +kernel
theorem dX4_passEvening_40 : decode cX4_passEvening 40 = .ok (.iload_n 1, 1) := by decide +kernel
theorem dX4_passEvening_41 : decode cX4_passEvening 41 = .ok (.bipush 64, 2) := by decide +kernel
theorem dX4_passEvening_43 : decode cX4_passEvening 43 = .ok (.isub, 1) := by decide +kernel
theorem dX4_passEvening_44 : decode cX4_passEvening 44 = .ok (.iconst 3, 1) := by decide +kernel
theorem dX4_passEvening_45 : decode cX4_passEvening 45 = .ok (.irem, 1) := by decide +kernel
theorem dX4_passEvening_46 : decode cX4_passEvening 46 = .ok (.iadd, 1) := by decide +kernel
theorem dX4_passEvening_47 : decode cX4_passEvening 47 = .ok (.invokevirtual 193, 3) := by decide +kernel
theorem dX4_passEvening_50 : decode cX4_passEvening 50 = .ok (.pop, 1) := by decide +kernel
theorem dX4_passEvening_51 : decode cX4_passEvening 51 = .ok (.goto 15, 3) := by decide +kernel
theorem dX4_passEvening_54 : decode cX4_passEvening 54 = .ok (.aload_n 0, 1) := by decide +kernel
theorem dX4_passEvening_55 : decode cX4_passEvening 55 = .ok (.getfield 23, 3) := by decide +kernel
theorem dX4_passEvening_58 : decode cX4_passEvening 58 = .ok (.iload_n 1, 1) := by decide +kernel
theorem dX4_passEvening_59 : decode cX4_passEvening 59 = .ok (.bipush 64, 2) := by decide +kernel
theorem dX4_passEvening_61 : decode cX4_passEvening 61 = .ok (.isub, 1) := by decide +kernel
theorem dX4_passEvening_62 : decode cX4_passEvening 62 = .ok (.invokevirtual 190, 3) := by decide +kernel
theorem dX4_passEvening_65 : decode cX4_passEvening 65 = .ok (.pop, 1) := by decide +kernel
theorem dX4_passEvening_66 : decode cX4_passEvening 66 = .ok (.return_, 1) := by decide +kernel
theorem dX4_keep_0 : decode cX4_keep 0 = .ok (.iload_n 1, 1) := by decide +kernel
theorem dX4_keep_1 : decode cX4_keep 1 = .ok (.invokestatic 244, 3) := by decide +kernel
theorem dX4_keep_4 : decode cX4_keep 4 = .ok (.ifCond .ne 5, 3) := by decide +kernel
theorem dX4_keep_7 : decode cX4_keep 7 = .ok (.iconst (-1), 1) := by decide +kernel
theorem dX4_keep_8 : decode cX4_keep 8 = .ok (.ireturn, 1) := by decide +kernel
theorem dX4_keep_9 : decode cX4_keep 9 = .ok (.aload_n 0, 1) := by decide +kernel
theorem dX4_keep_10 : decode cX4_keep 10 = .ok (.getfield 35, 3) := by decide +kernel
theorem dX4_keep_13 : decode cX4_keep 13 = .ok (.iload_n 1, 1) := by decide +kernel
theorem dX4_keep_14 : decode cX4_keep 14 = .ok (.aload_n 0, 1) := by decide +kernel
theorem dX4_keep_15 : decode cX4_keep 15 = .ok (.getfield 19, 3) := by decide +kernel
theorem dX4_keep_18 : decode cX4_keep 18 = .ok (.invokevirtual 157, 3) := by decide +kernel
theorem dX4_keep_21 : decode cX4_keep 21 = .ok (.aload_n 0, 1) := by decide +kernel
theorem dX4_keep_22 : decode cX4_keep 22 = .ok (.dup, 1) := by decide +kernel
theorem dX4_keep_23 : decode cX4_keep 23 = .ok (.getfield 76, 3) := by decide +kernel
theorem dX4_keep_26 : decode cX4_keep 26 = .ok (.iconst 1, 1) := by decide +kernel
theorem dX4_keep_27 : decode cX4_keep 27 = .ok (.iload_n 1, 1) := by decide +kernel
theorem dX4_keep_28 : decode cX4_keep 28 = .ok (.ishl, 1) := by decide +kernel
theorem dX4_keep_29 : decode cX4_keep 29 = .ok (.ior, 1) := by decide +kernel
theorem dX4_keep_30 : decode cX4_keep 30 = .ok (.putfield 76, 3) := by decide +kernel
theorem dX4_keep_33 : decode cX4_keep 33 = .ok (.aload_n 0, 1) := by decide +kernel
theorem dX4_keep_34 : decode cX4_keep 34 = .ok (.getfield 19, 3) := by decide +kernel
theorem dX4_keep_37 : decode cX4_keep 37 = .ok (.invokevirtual 79, 3) := by decide +kernel
theorem dX4_keep_40 : decode cX4_keep 40 = .ok (.ireturn, 1) := by decide +kernel
theorem dX4_again_0 : decode cX4_again 0 = .ok (.iload_n 1, 1) := by decide +kernel
theorem dX4_again_1 : decode cX4_again 1 = .ok (.invokestatic 244, 3) := by decide +kernel
theorem dX4_again_4 : decode cX4_again 4 = .ok (.ifCond .ne 5, 3) := by decide +kernel
theorem dX4_again_7 : decode cX4_again 7 = .ok (.iconst (-1), 1) := by decide +kernel
theorem dX4_again_8 : decode cX4_again 8 = .ok (.ireturn, 1) := by decide +kernel
theorem dX4_again_9 : decode cX4_again 9 = .ok (.aload_n 0, 1) := by decide +kernel
theorem dX4_again_10 : decode cX4_again 10 = .ok (.getfield 76, 3) := by decide +kernel
theorem dX4_again_13 : decode cX4_again 13 = .ok (.iload_n 1, 1) := by decide +kernel
theorem dX4_again_14 : decode cX4_again 14 = .ok (.ishr, 1) := by decide +kernel
theorem dX4_again_15 : decode cX4_again 15 = .ok (.iconst 1, 1) := by decide +kernel
theorem dX4_again_16 : decode cX4_again 16 = .ok (.iand, 1) := by decide +kernel
theorem dX4_again_17 : decode cX4_again 17 = .ok (.ifCond .ne 6, 3) := by decide +kernel
theorem dX4_again_20 : decode cX4_again 20 = .ok (.bipush (-3), 2) := by decide +kernel
theorem dX4_again_22 : decode cX4_again 22 = .ok (.ireturn, 1) := by decide +kernel
theorem dX4_again_23 : decode cX4_again 23 = .ok (.aload_n 0, 1) := by decide +kernel
theorem dX4_again_24 : decode cX4_again 24 = .ok (.getfield 35, 3) := by decide +kernel
theorem dX4_again_27 : decode cX4_again 27 = .ok (.iload_n 1, 1) := by decide +kernel
theorem dX4_again_28 : decode cX4_again 28 = .ok (.aload_n 0, 1) := by decide +kernel
theorem dX4_again_29 : decode cX4_again 29 = .ok (.getfield 19, 3) := by decide +kernel
theorem dX4_again_32 : decode cX4_again 32 = .ok (.invokevirtual 150, 3) := by decide +kernel
theorem dX4_again_35 : decode cX4_again 35 = .ok (.aload_n 0, 1) := by decide +kernel
theorem dX4_again_36 : decode cX4_again 36 = .ok (.iconst 0, 1) := by decide +kernel
theorem dX4_again_37 : decode cX4_again 37 = .ok (.putfield 73, 3) := by decide +kernel
theorem dX4_again_40 : decode cX4_again 40 = .ok (.aload_n 0, 1) := by decide +kernel
theorem dX4_again_41 : decode cX4_again 41 = .ok (.getfield 19, 3) := by decide +kernel
theorem dX4_again_44 : decode cX4_again 44 = .ok (.invokevirtual 79, 3) := by decide +kernel
theorem dX4_again_47 : decode cX4_again 47 = .ok (.ireturn, 1) := by decide +kernel
theorem dX4_isPiece_0 : decode cX4_isPiece 0 = .ok (.iload_n 0, 1) := by decide +kernel
theorem dX4_isPiece_1 : decode cX4_isPiece 1 = .ok (.ifCond .lt 13, 3) := by decide +kernel
theorem dX4_isPiece_4 : decode cX4_isPiece 4 = .ok (.iload_n 0, 1) := by decide +kernel
theorem dX4_isPiece_5 : decode cX4_isPiece 5 = .ok (.bipush 16, 2) := by decide +kernel
theorem dX4_isPiece_7 : decode cX4_isPiece 7 = .ok (.if_icmp .ge 7, 3) := by decide +kernel
theorem dX4_isPiece_10 : decode cX4_isPiece 10 = .ok (.iconst 1, 1) := by decide +kernel
theorem dX4_isPiece_11 : decode cX4_isPiece 11 = .ok (.goto 4, 3) := by decide +kernel
theorem dX4_isPiece_14 : decode cX4_isPiece 14 = .ok (.iconst 0, 1) := by decide +kernel
theorem dX4_isPiece_15 : decode cX4_isPiece 15 = .ok (.ireturn, 1) := by decide +kernel
theorem dX4_isKind_0 : decode cX4_isKind 0 = .ok (.iload_n 0, 1) := by decide +kernel
theorem dX4_isKind_1 : decode cX4_isKind 1 = .ok (.ifCond .lt 12, 3) := by decide +kernel
theorem dX4_isKind_4 : decode cX4_isKind 4 = .ok (.iload_n 0, 1) := by decide +kernel
theorem dX4_isKind_5 : decode cX4_isKind 5 = .ok (.iconst 4, 1) := by decide +kernel
theorem dX4_isKind_6 : decode cX4_isKind 6 = .ok (.if_icmp .ge 7, 3) := by decide +kernel
theorem dX4_isKind_9 : decode cX4_isKind 9 = .ok (.iconst 1, 1) := by decide +kernel
theorem dX4_isKind_10 : decode cX4_isKind 10 = .ok (.goto 4, 3) := by decide +kernel
theorem dX4_isKind_13 : decode cX4_isKind 13 = .ok (.iconst 0, 1) := by decide +kernel
theorem dX4_isKind_14 : decode cX4_isKind 14 = .ok (.ireturn, 1) := by decide +kernel
theorem dX4_isLevel_0 : decode cX4_isLevel 0 = .ok (.iload_n 0, 1) := by decide +kernel
theorem dX4_isLevel_1 : decode cX4_isLevel 1 = .ok (.ifCond .lt 12, 3) := by decide +kernel
theorem dX4_isLevel_4 : decode cX4_isLevel 4 = .ok (.iload_n 0, 1) := by decide +kernel
theorem dX4_isLevel_5 : decode cX4_isLevel 5 = .ok (.iconst 4, 1) := by decide +kernel
theorem dX4_isLevel_6 : decode cX4_isLevel 6 = .ok (.if_icmp .ge 7, 3) := by decide +kernel
theorem dX4_isLevel_9 : decode cX4_isLevel 9 = .ok (.iconst 1, 1) := by decide +kernel
theorem dX4_isLevel_10 : decode cX4_isLevel 10 = .ok (.goto 4, 3) := by decide +kernel
theorem dX4_isLevel_13 : decode cX4_isLevel 13 = .ok (.iconst 0, 1) := by decide +kernel
theorem dX4_isLevel_14 : decode cX4_isLevel 14 = .ok (.ireturn, 1) := by decide +kernel
theorem dX4_isForce_0 : decode cX4_isForce 0 = .ok (.iload_n 0, 1) := by decide +kernel
theorem dX4_isForce_1 : decode cX4_isForce 1 = .ok (.iconst 1, 1) := by decide +kernel
theorem dX4_isForce_2 : decode cX4_isForce 2 = .ok (.if_icmp .lt 13, 3) := by decide +kernel
theorem dX4_isForce_5 : decode cX4_isForce 5 = .ok (.iload_n 0, 1) := by decide +kernel
theorem dX4_isForce_6 : decode cX4_isForce 6 = .ok (.bipush 9, 2) := by decide +kernel
theorem dX4_isForce_8 : decode cX4_isForce 8 = .ok (.if_icmp .gt 7, 3) := by decide +kernel
theorem dX4_isForce_11 : decode cX4_isForce 11 = .ok (.iconst 1, 1) := by decide +kernel
theorem dX4_isForce_12 : decode cX4_isForce 12 = .ok (.goto 4, 3) := by decide +kernel
theorem dX4_isForce_15 : decode cX4_isForce 15 = .ok (.iconst 0, 1) := by decide +kernel
theorem dX4_isForce_16 : decode cX4_isForce 16 = .ok (.ireturn, 1) := by decide +kernel
theorem dX4_isSlot_0 : decode cX4_isSlot 0 = .ok (.iload_n 0, 1) := by decide +kernel
theorem dX4_isSlot_1 : decode cX4_isSlot 1 = .ok (.ifCond .lt 12, 3) := by decide +kernel
theorem dX4_isSlot_4 : decode cX4_isSlot 4 = .ok (.iload_n 0, 1) := by decide +kernel
theorem dX4_isSlot_5 : decode cX4_isSlot 5 = .ok (.iconst 2, 1) := by decide +kernel
theorem dX4_isSlot_6 : decode cX4_isSlot 6 = .ok (.if_icmp .ge 7, 3) := by decide +kernel
theorem dX4_isSlot_9 : decode cX4_isSlot 9 = .ok (.iconst 1, 1) := by decide +kernel
theorem dX4_isSlot_10 : decode cX4_isSlot 10 = .ok (.goto 4, 3) := by decide +kernel
theorem dX4_isSlot_13 : decode cX4_isSlot 13 = .ok (.iconst 0, 1) := by decide +kernel
theorem dX4_isSlot_14 : decode cX4_isSlot 14 = .ok (.ireturn, 1) := by decide +kernel
theorem dX4_cardsOf_0 : decode cX4_cardsOf 0 = .ok (.iconst 1, 1) := by decide +kernel
theorem dX4_cardsOf_1 : decode cX4_cardsOf 1 = .ok (.ldc 177, 2) := by decide +kernel
theorem dX4_cardsOf_3 : decode cX4_cardsOf 3 = .ok (.iload_n 0, 1) := by decide +kernel
theorem dX4_cardsOf_4 : decode cX4_cardsOf 4 = .ok (.ishr, 1) := by decide +kernel
theorem dX4_cardsOf_5 : decode cX4_cardsOf 5 = .ok (.iconst 1, 1) := by decide +kernel
theorem dX4_cardsOf_6 : decode cX4_cardsOf 6 = .ok (.iand, 1) := by decide +kernel
theorem dX4_cardsOf_7 : decode cX4_cardsOf 7 = .ok (.iadd, 1) := by decide +kernel
theorem dX4_cardsOf_8 : decode cX4_cardsOf 8 = .ok (.ireturn, 1) := by decide +kernel
theorem dX4_cardWeight_0 : decode cX4_cardWeight 0 = .ok (.iload_n 0, 1) := by decide +kernel
theorem dX4_cardWeight_1 : decode cX4_cardWeight 1 = .ok (.iconst 3, 1) := by decide +kernel
theorem dX4_cardWeight_2 : decode cX4_cardWeight 2 = .ok (.if_icmp .ne 8, 3) := by decide +kernel
theorem dX4_cardWeight_5 : decode cX4_cardWeight 5 = .ok (.bipush 16, 2) := by decide +kernel
theorem dX4_cardWeight_7 : decode cX4_cardWeight 7 = .ok (.goto 5, 3) := by decide +kernel
theorem dX4_cardWeight_10 : decode cX4_cardWeight 10 = .ok (.bipush 8, 2) := by decide +kernel
theorem dX4_cardWeight_12 : decode cX4_cardWeight 12 = .ok (.ireturn, 1) := by decide +kernel
theorem dX4_steadiness_0 : decode cX4_steadiness 0 = .ok (.iconst 2, 1) := by decide +kernel
theorem dX4_steadiness_1 : decode cX4_steadiness 1 = .ok (.iload_n 0, 1) := by decide +kernel
theorem dX4_steadiness_2 : decode cX4_steadiness 2 = .ok (.invokestatic 247, 3) := by decide +kernel
theorem dX4_steadiness_5 : decode cX4_steadiness 5 = .ok (.imul, 1) := by decide +kernel
theorem dX4_steadiness_6 : decode cX4_steadiness 6 = .ok (.iload_n 1, 1) := by decide +kernel
theorem dX4_steadiness_7 : decode cX4_steadiness 7 = .ok (.iadd, 1) := by decide +kernel
theorem dX4_steadiness_8 : decode cX4_steadiness 8 = .ok (.iload_n 0, 1) := by decide +kernel
theorem dX4_steadiness_9 : decode cX4_steadiness 9 = .ok (.invokestatic 98, 3) := by decide +kernel
theorem dX4_steadiness_12 : decode cX4_steadiness 12 = .ok (.ifCond .eq 11, 3) := by decide +kernel
theorem dX4_steadiness_15 : decode cX4_steadiness 15 = .ok (.getstatic 250, 3) := by decide +kernel
theorem dX4_steadiness_18 : decode cX4_steadiness 18 = .ok (.iload_n 0, 1) := by decide +kernel
theorem dX4_steadiness_19 : decode cX4_steadiness 19 = .ok (.iaload, 1) := by decide +kernel
theorem dX4_steadiness_20 : decode cX4_steadiness 20 = .ok (.goto 4, 3) := by decide +kernel
theorem dX4_steadiness_23 : decode cX4_steadiness 23 = .ok (.iconst 0, 1) := by decide +kernel
theorem dX4_steadiness_24 : decode cX4_steadiness 24 = .ok (.iadd, 1) := by decide +kernel
theorem dX4_steadiness_25 : decode cX4_steadiness 25 = .ok (.ireturn, 1) := by decide +kernel
theorem dX4_power_0 : decode cX4_power 0 = .ok (.iconst 1, 1) := by decide +kernel
theorem dX4_power_1 : decode cX4_power 1 = .ok (.istore_n 2, 1) := by decide +kernel
theorem dX4_power_2 : decode cX4_power 2 = .ok (.iconst 0, 1) := by decide +kernel
theorem dX4_power_3 : decode cX4_power 3 = .ok (.istore_n 3, 1) := by decide +kernel
theorem dX4_power_4 : decode cX4_power 4 = .ok (.iload_n 3, 1) := by decide +kernel
theorem dX4_power_5 : decode cX4_power 5 = .ok (.iload_n 1, 1) := by decide +kernel
theorem dX4_power_6 : decode cX4_power 6 = .ok (.if_icmp .ge 13, 3) := by decide +kernel
theorem dX4_power_9 : decode cX4_power 9 = .ok (.iload_n 2, 1) := by decide +kernel
theorem dX4_power_10 : decode cX4_power 10 = .ok (.iload_n 0, 1) := by decide +kernel
theorem dX4_power_11 : decode cX4_power 11 = .ok (.imul, 1) := by decide +kernel
theorem dX4_power_12 : decode cX4_power 12 = .ok (.istore_n 2, 1) := by decide +kernel
theorem dX4_power_13 : decode cX4_power 13 = .ok (.iinc 3 1, 3) := by decide +kernel
theorem dX4_power_16 : decode cX4_power 16 = .ok (.goto (-12), 3) := by decide +kernel
theorem dX4_power_19 : decode cX4_power 19 = .ok (.iload_n 2, 1) := by decide +kernel
theorem dX4_power_20 : decode cX4_power 20 = .ok (.ireturn, 1) := by decide +kernel
theorem dX4_partOfFraction_0 : decode cX4_partOfFraction 0 = .ok (.iconst 1, 1) := by decide +kernel
theorem dX4_partOfFraction_1 : decode cX4_partOfFraction 1 = .ok (.iload_n 0, 1) := by decide +kernel
theorem dX4_partOfFraction_2 : decode cX4_partOfFraction 2 = .ok (.iload_n 1, 1) := by decide +kernel
theorem dX4_partOfFraction_3 : decode cX4_partOfFraction 3 = .ok (.invokestatic 253, 3) := by decide +kernel
theorem dX4_partOfFraction_6 : decode cX4_partOfFraction 6 = .ok (.invokestatic 256, 3) := by decide +kernel
theorem dX4_partOfFraction_9 : decode cX4_partOfFraction 9 = .ok (.istore_n 3, 1) := by decide +kernel
theorem dX4_partOfFraction_10 : decode cX4_partOfFraction 10 = .ok (.iload_n 2, 1) := by decide +kernel
theorem dX4_partOfFraction_11 : decode cX4_partOfFraction 11 = .ok (.ifCond .eq 7, 3) := by decide +kernel
theorem dX4_partOfFraction_14 : decode cX4_partOfFraction 14 = .ok (.iload_n 0, 1) := by decide +kernel
theorem dX4_partOfFraction_15 : decode cX4_partOfFraction 15 = .ok (.goto 4, 3) := by decide +kernel
theorem dX4_partOfFraction_18 : decode cX4_partOfFraction 18 = .ok (.iload_n 1, 1) := by decide +kernel
theorem dX4_partOfFraction_19 : decode cX4_partOfFraction 19 = .ok (.iload_n 3, 1) := by decide +kernel
theorem dX4_partOfFraction_20 : decode cX4_partOfFraction 20 = .ok (.idiv, 1) := by decide +kernel
theorem dX4_partOfFraction_21 : decode cX4_partOfFraction 21 = .ok (.ireturn, 1) := by decide +kernel
theorem dX4_commonDivisor_0 : decode cX4_commonDivisor 0 = .ok (.iload_n 0, 1) := by decide +kernel
theorem dX4_commonDivisor_1 : decode cX4_commonDivisor 1 = .ok (.invokestatic 261, 3) := by decide +kernel
theorem dX4_commonDivisor_4 : decode cX4_commonDivisor 4 = .ok (.istore_n 2, 1) := by decide +kernel
theorem dX4_commonDivisor_5 : decode cX4_commonDivisor 5 = .ok (.iload_n 1, 1) := by decide +kernel
theorem dX4_commonDivisor_6 : decode cX4_commonDivisor 6 = .ok (.istore_n 3, 1) := by decide +kernel
theorem dX4_commonDivisor_7 : decode cX4_commonDivisor 7 = .ok (.iconst 0, 1) := by decide +kernel
theorem dX4_commonDivisor_8 : decode cX4_commonDivisor 8 = .ok (.istore 4, 2) := by decide +kernel
theorem dX4_commonDivisor_10 : decode cX4_commonDivisor 10 = .ok (.iload 4, 2) := by decide +kernel
theorem dX4_commonDivisor_12 : decode cX4_commonDivisor 12 = .ok (.bipush 64, 2) := by decide +kernel
theorem dX4_commonDivisor_14 : decode cX4_commonDivisor 14 = .ok (.if_icmp .ge 23, 3) := by decide +kernel
theorem dX4_commonDivisor_17 : decode cX4_commonDivisor 17 = .ok (.iload_n 3, 1) := by decide +kernel
theorem dX4_commonDivisor_18 : decode cX4_commonDivisor 18 = .ok (.ifCond .eq 19, 3) := by decide +kernel
theorem dX4_commonDivisor_21 : decode cX4_commonDivisor 21 = .ok (.iload_n 2, 1) := by decide +kernel
theorem dX4_commonDivisor_22 : decode cX4_commonDivisor 22 = .ok (.iload_n 3, 1) := by decide +kernel
theorem dX4_commonDivisor_23 : decode cX4_commonDivisor 23 = .ok (.irem, 1) := by decide +kernel
theorem dX4_commonDivisor_24 : decode cX4_commonDivisor 24 = .ok (.istore 5, 2) := by decide +kernel
theorem dX4_commonDivisor_26 : decode cX4_commonDivisor 26 = .ok (.iload_n 3, 1) := by decide +kernel
theorem dX4_commonDivisor_27 : decode cX4_commonDivisor 27 = .ok (.istore_n 2, 1) := by decide +kernel
theorem dX4_commonDivisor_28 : decode cX4_commonDivisor 28 = .ok (.iload 5, 2) := by decide +kernel
theorem dX4_commonDivisor_30 : decode cX4_commonDivisor 30 = .ok (.istore_n 3, 1) := by decide +kernel
theorem dX4_commonDivisor_31 : decode cX4_commonDivisor 31 = .ok (.iinc 4 1, 3) := by decide +kernel
theorem dX4_commonDivisor_34 : decode cX4_commonDivisor 34 = .ok (.goto (-24), 3) := by decide +kernel
theorem dX4_commonDivisor_37 : decode cX4_commonDivisor 37 = .ok (.iload_n 2, 1) := by decide +kernel
theorem dX4_commonDivisor_38 : decode cX4_commonDivisor 38 = .ok (.ireturn, 1) := by decide +kernel
theorem dX5_init_0 : decode cX5_init 0 = .ok (.aload_n 0, 1) := by decide +kernel
theorem dX5_init_1 : decode cX5_init 1 = .ok (.invokespecial 1, 3) := by decide +kernel
theorem dX5_init_4 : decode cX5_init 4 = .ok (.aload_n 0, 1) := by decide +kernel
theorem dX5_init_5 : decode cX5_init 5 = .ok (.bipush 56, 2) := by decide +kernel
theorem dX5_init_7 : decode cX5_init 7 = .ok (.newarray .int, 2) := by decide +kernel
theorem dX5_init_9 : decode cX5_init 9 = .ok (.putfield 7, 3) := by decide +kernel
theorem dX5_init_12 : decode cX5_init 12 = .ok (.aload_n 0, 1) := by decide +kernel
theorem dX5_init_13 : decode cX5_init 13 = .ok (.iconst 4, 1) := by decide +kernel
theorem dX5_init_14 : decode cX5_init 14 = .ok (.newarray .int, 2) := by decide +kernel
theorem dX5_init_16 : decode cX5_init 16 = .ok (.putfield 13, 3) := by decide +kernel
theorem dX5_init_19 : decode cX5_init 19 = .ok (.aload_n 0, 1) := by decide +kernel
theorem dX5_init_20 : decode cX5_init 20 = .ok (.iconst 4, 1) := by decide +kernel
theorem dX5_init_21 : decode cX5_init 21 = .ok (.newarray .int, 2) := by decide +kernel
theorem dX5_init_23 : decode cX5_init 23 = .ok (.putfield 16, 3) := by decide +kernel
theorem dX5_init_26 : decode cX5_init 26 = .ok (.aload_n 0, 1) := by decide +kernel
theorem dX5_init_27 : decode cX5_init 27 = .ok (.bipush 17, 2) := by decide +kernel
theorem dX5_init_29 : decode cX5_init 29 = .ok (.newarray .int, 2) := by decide +kernel
theorem dX5_init_31 : decode cX5_init 31 = .ok (.putfield 19, 3) := by decide +kernel
theorem dX5_init_34 : decode cX5_init 34 = .ok (.aload_n 0, 1) := by decide +kernel
theorem dX5_init_35 : decode cX5_init 35 = .ok (.bipush 17, 2) := by decide +kernel
theorem dX5_init_37 : decode cX5_init 37 = .ok (.newarray .int, 2) := by decide +kernel
theorem dX5_init_39 : decode cX5_init 39 = .ok (.putfield 22, 3) := by decide +kernel
theorem dX5_init_42 : decode cX5_init 42 = .ok (.aload_n 0, 1) := by decide +kernel
theorem dX5_init_43 : decode cX5_init 43 = .ok (.bipush 17, 2) := by decide +kernel
theorem dX5_init_45 : decode cX5_init 45 = .ok (.newarray .int, 2) := by decide +kernel
theorem dX5_init_47 : decode cX5_init 47 = .ok (.putfield 25, 3) := by decide +kernel
theorem dX5_init_50 : decode cX5_init 50 = .ok (.aload_n 0, 1) := by decide +kernel
theorem dX5_init_51 : decode cX5_init 51 = .ok (.bipush 16, 2) := by decide +kernel
theorem dX5_init_53 : decode cX5_init 53 = .ok (.newarray .int, 2) := by decide +kernel
theorem dX5_init_55 : decode cX5_init 55 = .ok (.putfield 28, 3) := by decide +kernel
theorem dX5_init_58 : decode cX5_init 58 = .ok (.aload_n 0, 1) := by decide +kernel
theorem dX5_init_59 : decode cX5_init 59 = .ok (.sipush 238, 3) := by decide +kernel
theorem dX5_init_62 : decode cX5_init 62 = .ok (.newarray .int, 2) := by decide +kernel
theorem dX5_init_64 : decode cX5_init 64 = .ok (.putfield 31, 3) := by decide +kernel
theorem dX5_init_67 : decode cX5_init 67 = .ok (.aload_n 0, 1) := by decide +kernel
theorem dX5_init_68 : decode cX5_init 68 = .ok (.bipush 34, 2) := by decide +kernel
theorem dX5_init_70 : decode cX5_init 70 = .ok (.newarray .int, 2) := by decide +kernel
theorem dX5_init_72 : decode cX5_init 72 = .ok (.putfield 34, 3) := by decide +kernel
theorem dX5_init_75 : decode cX5_init 75 = .ok (.aload_n 0, 1) := by decide +kernel
theorem dX5_init_76 : decode cX5_init 76 = .ok (.iconst 2, 1) := by decide +kernel
theorem dX5_init_77 : decode cX5_init 77 = .ok (.newarray .boolean, 2) := by decide +kernel
theorem dX5_init_79 : decode cX5_init 79 = .ok (.putfield 37, 3) := by decide +kernel
theorem dX5_init_82 : decode cX5_init 82 = .ok (.aload_n 0, 1) := by decide +kernel
theorem dX5_init_83 : decode cX5_init 83 = .ok (.bipush 6, 2) := by decide +kernel
theorem dX5_init_85 : decode cX5_init 85 = .ok (.newarray .int, 2) := by decide +kernel
theorem dX5_init_87 : decode cX5_init 87 = .ok (.putfield 41, 3) := by decide +kernel
theorem dX5_init_90 : decode cX5_init 90 = .ok (.aload_n 0, 1) := by decide +kernel
theorem dX5_init_91 : decode cX5_init 91 = .ok (.bipush 6, 2) := by decide +kernel
theorem dX5_init_93 : decode cX5_init 93 = .ok (.newarray .int, 2) := by decide +kernel
theorem dX5_init_95 : decode cX5_init 95 = .ok (.putfield 44, 3) := by decide +kernel
theorem dX5_init_98 : decode cX5_init 98 = .ok (.aload_n 0, 1) := by decide +kernel
theorem dX5_init_99 : decode cX5_init 99 = .ok (.bipush 6, 2) := by decide +kernel
theorem dX5_init_101 : decode cX5_init 101 = .ok (.newarray .int, 2) := by decide +kernel
theorem dX5_init_103 : decode cX5_init 103 = .ok (.putfield 47, 3) := by decide +kernel
theorem dX5_init_106 : decode cX5_init 106 = .ok (.aload_n 0, 1) := by decide +kernel
theorem dX5_init_107 : decode cX5_init 107 = .ok (.bipush 6, 2) := by decide +kernel
theorem dX5_init_109 : decode cX5_init 109 = .ok (.newarray .int, 2) := by decide +kernel
theorem dX5_init_111 : decode cX5_init 111 = .ok (.putfield 50, 3) := by decide +kernel
theorem dX5_init_114 : decode cX5_init 114 = .ok (.aload_n 0, 1) := by decide +kernel
theorem dX5_init_115 : decode cX5_init 115 = .ok (.bipush 50, 2) := by decide +kernel
theorem dX5_init_117 : decode cX5_init 117 = .ok (.newarray .int, 2) := by decide +kernel
theorem dX5_init_119 : decode cX5_init 119 = .ok (.putfield 53, 3) := by decide +kernel
theorem dX5_init_122 : decode cX5_init 122 = .ok (.aload_n 0, 1) := by decide +kernel
theorem dX5_init_123 : decode cX5_init 123 = .ok (.bipush 16, 2) := by decide +kernel
theorem dX5_init_125 : decode cX5_init 125 = .ok (.newarray .int, 2) := by decide +kernel
theorem dX5_init_127 : decode cX5_init 127 = .ok (.putfield 56, 3) := by decide +kernel
theorem dX5_init_130 : decode cX5_init 130 = .ok (.return_, 1) := by decide +kernel
theorem dX5_in_0 : decode cX5_in 0 = .ok (.lload_n 0, 1) := by decide +kernel
theorem dX5_in_1 : decode cX5_in 1 = .ok (.lload_n 2, 1) := by decide +kernel
theorem dX5_in_2 : decode cX5_in 2 = .ok (.lcmp, 1) := by decide +kernel
theorem dX5_in_3 : decode cX5_in 3 = .ok (.ifCond .lt 14, 3) := by decide +kernel
theorem dX5_in_6 : decode cX5_in 6 = .ok (.lload_n 0, 1) := by decide +kernel
theorem dX5_in_7 : decode cX5_in 7 = .ok (.lload 4, 2) := by decide +kernel
theorem dX5_in_9 : decode cX5_in 9 = .ok (.lcmp, 1) := by decide +kernel
theorem dX5_in_10 : decode cX5_in 10 = .ok (.ifCond .gt 7, 3) := by decide +kernel
theorem dX5_in_13 : decode cX5_in 13 = .ok (.iconst 1, 1) := by decide +kernel
theorem dX5_in_14 : decode cX5_in 14 = .ok (.goto 4, 3) := by decide +kernel
theorem dX5_in_17 : decode cX5_in 17 = .ok (.iconst 0, 1) := by decide +kernel
theorem dX5_in_18 : decode cX5_in 18 = .ok (.ireturn, 1) := by decide +kernel
theorem dX5_has_0 : decode cX5_has 0 = .ok (.iload_n 0, 1) := by decide +kernel
theorem dX5_has_1 : decode cX5_has 1 = .ok (.iload_n 1, 1) := by decide +kernel
theorem dX5_has_2 : decode cX5_has 2 = .ok (.ishr, 1) := by decide +kernel
theorem dX5_has_3 : decode cX5_has 3 = .ok (.iconst 1, 1) := by decide +kernel
theorem dX5_has_4 : decode cX5_has 4 = .ok (.iand, 1) := by decide +kernel
theorem dX5_has_5 : decode cX5_has 5 = .ok (.iconst 1, 1) := by decide +kernel
theorem dX5_has_6 : decode cX5_has 6 = .ok (.if_icmp .ne 7, 3) := by decide +kernel
theorem dX5_has_9 : decode cX5_has 9 = .ok (.iconst 1, 1) := by decide +kernel
theorem dX5_has_10 : decode cX5_has 10 = .ok (.goto 4, 3) := by decide +kernel
theorem dX5_has_13 : decode cX5_has 13 = .ok (.iconst 0, 1) := by decide +kernel
theorem dX5_has_14 : decode cX5_has 14 = .ok (.ireturn, 1) := by decide +kernel
theorem dX5_many_0 : decode cX5_many 0 = .ok (.iconst 0, 1) := by decide +kernel
theorem dX5_many_1 : decode cX5_many 1 = .ok (.istore_n 1, 1) := by decide +kernel
theorem dX5_many_2 : decode cX5_many 2 = .ok (.iconst 0, 1) := by decide +kernel
theorem dX5_many_3 : decode cX5_many 3 = .ok (.istore_n 2, 1) := by decide +kernel
theorem dX5_many_4 : decode cX5_many 4 = .ok (.iload_n 2, 1) := by decide +kernel
theorem dX5_many_5 : decode cX5_many 5 = .ok (.bipush 16, 2) := by decide +kernel
theorem dX5_many_7 : decode cX5_many 7 = .ok (.if_icmp .ge 17, 3) := by decide +kernel
theorem dX5_many_10 : decode cX5_many 10 = .ok (.iload_n 1, 1) := by decide +kernel
theorem dX5_many_11 : decode cX5_many 11 = .ok (.iload_n 0, 1) := by decide +kernel
theorem dX5_many_12 : decode cX5_many 12 = .ok (.iload_n 2, 1) := by decide +kernel
theorem dX5_many_13 : decode cX5_many 13 = .ok (.ishr, 1) := by decide +kernel
theorem dX5_many_14 : decode cX5_many 14 = .ok (.iconst 1, 1) := by decide +kernel
theorem dX5_many_15 : decode cX5_many 15 = .ok (.iand, 1) := by decide +kernel
theorem dX5_many_16 : decode cX5_many 16 = .ok (.iadd, 1) := by decide +kernel
theorem dX5_many_17 : decode cX5_many 17 = .ok (.istore_n 1, 1) := by decide +kernel
theorem dX5_many_18 : decode cX5_many 18 = .ok (.iinc 2 1, 3) := by decide +kernel
theorem dX5_many_21 : decode cX5_many 21 = .ok (.goto (-17), 3) := by decide +kernel
theorem dX5_many_24 : decode cX5_many 24 = .ok (.iload_n 1, 1) := by decide +kernel
theorem dX5_many_25 : decode cX5_many 25 = .ok (.ireturn, 1) := by decide +kernel
theorem dX5_power_0 : decode cX5_power 0 = .ok (.iconst 1, 1) := by decide +kernel
theorem dX5_power_1 : decode cX5_power 1 = .ok (.istore_n 2, 1) := by decide +kernel
theorem dX5_power_2 : decode cX5_power 2 = .ok (.iconst 0, 1) := by decide +kernel
theorem dX5_power_3 : decode cX5_power 3 = .ok (.istore_n 3, 1) := by decide +kernel
theorem dX5_power_4 : decode cX5_power 4 = .ok (.iload_n 3, 1) := by decide +kernel
theorem dX5_power_5 : decode cX5_power 5 = .ok (.iload_n 1, 1) := by decide +kernel
theorem dX5_power_6 : decode cX5_power 6 = .ok (.if_icmp .ge 13, 3) := by decide +kernel
theorem dX5_power_9 : decode cX5_power 9 = .ok (.iload_n 2, 1) := by decide +kernel
theorem dX5_power_10 : decode cX5_power 10 = .ok (.iload_n 0, 1) := by decide +kernel
theorem dX5_power_11 : decode cX5_power 11 = .ok (.imul, 1) := by decide +kernel
theorem dX5_power_12 : decode cX5_power 12 = .ok (.istore_n 2, 1) := by decide +kernel
theorem dX5_power_13 : decode cX5_power 13 = .ok (.iinc 3 1, 3) := by decide +kernel
theorem dX5_power_16 : decode cX5_power 16 = .ok (.goto (-12), 3) := by decide +kernel
theorem dX5_power_19 : decode cX5_power 19 = .ok (.iload_n 2, 1) := by decide +kernel
theorem dX5_power_20 : decode cX5_power 20 = .ok (.ireturn, 1) := by decide +kernel
theorem dX5_noPiece_0 : decode cX5_noPiece 0 = .ok (.iload_n 0, 1) := by decide +kernel
theorem dX5_noPiece_1 : decode cX5_noPiece 1 = .ok (.i2l, 1) := by decide +kernel
theorem dX5_noPiece_2 : decode cX5_noPiece 2 = .ok (.lconst 0, 1) := by decide +kernel
theorem dX5_noPiece_3 : decode cX5_noPiece 3 = .ok (.ldc2_w 63, 3) := by decide +kernel
theorem dX5_noPiece_6 : decode cX5_noPiece 6 = .ok (.invokestatic 65, 3) := by decide +kernel
theorem dX5_noPiece_9 : decode cX5_noPiece 9 = .ok (.ifCond .ne 7, 3) := by decide +kernel
theorem dX5_noPiece_12 : decode cX5_noPiece 12 = .ok (.iconst 1, 1) := by decide +kernel
theorem dX5_noPiece_13 : decode cX5_noPiece 13 = .ok (.goto 4, 3) := by decide +kernel
theorem dX5_noPiece_16 : decode cX5_noPiece 16 = .ok (.iconst 0, 1) := by decide +kernel
theorem dX5_noPiece_17 : decode cX5_noPiece 17 = .ok (.ireturn, 1) := by decide +kernel
theorem dX5_noKind_0 : decode cX5_noKind 0 = .ok (.iload_n 0, 1) := by decide +kernel
theorem dX5_noKind_1 : decode cX5_noKind 1 = .ok (.i2l, 1) := by decide +kernel
theorem dX5_noKind_2 : decode cX5_noKind 2 = .ok (.lconst 0, 1) := by decide +kernel
theorem dX5_noKind_3 : decode cX5_noKind 3 = .ok (.ldc2_w 69, 3) := by decide +kernel
theorem dX5_noKind_6 : decode cX5_noKind 6 = .ok (.invokestatic 65, 3) := by decide +kernel
theorem dX5_noKind_9 : decode cX5_noKind 9 = .ok (.ifCond .ne 7, 3) := by decide +kernel
theorem dX5_noKind_12 : decode cX5_noKind 12 = .ok (.iconst 1, 1) := by decide +kernel
theorem dX5_noKind_13 : decode cX5_noKind 13 = .ok (.goto 4, 3) := by decide +kernel
theorem dX5_noKind_16 : decode cX5_noKind 16 = .ok (.iconst 0, 1) := by decide +kernel
theorem dX5_noKind_17 : decode cX5_noKind 17 = .ok (.ireturn, 1) := by decide +kernel
theorem dX5_level_0 : decode cX5_level 0 = .ok (.iload_n 0, 1) := by decide +kernel
theorem dX5_level_1 : decode cX5_level 1 = .ok (.bipush 7, 2) := by decide +kernel
theorem dX5_level_3 : decode cX5_level 3 = .ok (.if_icmp .ge 7, 3) := by decide +kernel
theorem dX5_level_6 : decode cX5_level 6 = .ok (.iconst 0, 1) := by decide +kernel
theorem dX5_level_7 : decode cX5_level 7 = .ok (.goto 24, 3) := by decide +kernel
theorem dX5_level_10 : decode cX5_level 10 = .ok (.iload_n 0, 1) := by decide +kernel
theorem dX5_level_11 : decode cX5_level 11 = .ok (.bipush 12, 2) := by decide +kernel
theorem dX5_level_13 : decode cX5_level 13 = .ok (.if_icmp .ge 7, 3) := by decide +kernel
theorem dX5_level_16 : decode cX5_level 16 = .ok (.iconst 1, 1) := by decide +kernel
theorem dX5_level_17 : decode cX5_level 17 = .ok (.goto 14, 3) := by decide +kernel
theorem dX5_level_20 : decode cX5_level 20 = .ok (.iload_n 0, 1) := by decide +kernel
theorem dX5_level_21 : decode cX5_level 21 = .ok (.bipush 15, 2) := by decide +kernel
theorem dX5_level_23 : decode cX5_level 23 = .ok (.if_icmp .ge 7, 3) := by decide +kernel
theorem dX5_level_26 : decode cX5_level 26 = .ok (.iconst 2, 1) := by decide +kernel
theorem dX5_level_27 : decode cX5_level 27 = .ok (.goto 4, 3) := by decide +kernel
theorem dX5_level_30 : decode cX5_level 30 = .ok (.iconst 3, 1) := by decide +kernel
theorem dX5_level_31 : decode cX5_level 31 = .ok (.ireturn, 1) := by decide +kernel
theorem dX5_isFlat_0 : decode cX5_isFlat 0 = .ok (.iload_n 0, 1) := by decide +kernel
theorem dX5_isFlat_1 : decode cX5_isFlat 1 = .ok (.iconst 3, 1) := by decide +kernel
theorem dX5_isFlat_2 : decode cX5_isFlat 2 = .ok (.if_icmp .le 9, 3) := by decide +kernel
theorem dX5_isFlat_5 : decode cX5_isFlat 5 = .ok (.iload_n 0, 1) := by decide +kernel
theorem dX5_isFlat_6 : decode cX5_isFlat 6 = .ok (.bipush 7, 2) := by decide +kernel
theorem dX5_isFlat_8 : decode cX5_isFlat 8 = .ok (.if_icmp .lt 21, 3) := by decide +kernel
theorem dX5_isFlat_11 : decode cX5_isFlat 11 = .ok (.iload_n 0, 1) := by decide +kernel
theorem dX5_isFlat_12 : decode cX5_isFlat 12 = .ok (.bipush 10, 2) := by decide +kernel
theorem dX5_isFlat_14 : decode cX5_isFlat 14 = .ok (.if_icmp .eq 15, 3) := by decide +kernel
theorem dX5_isFlat_17 : decode cX5_isFlat 17 = .ok (.iload_n 0, 1) := by decide +kernel
theorem dX5_isFlat_18 : decode cX5_isFlat 18 = .ok (.bipush 11, 2) := by decide +kernel
theorem dX5_isFlat_20 : decode cX5_isFlat 20 = .ok (.if_icmp .eq 9, 3) := by decide +kernel
theorem dX5_isFlat_23 : decode cX5_isFlat 23 = .ok (.iload_n 0, 1) := by decide +kernel
theorem dX5_isFlat_24 : decode cX5_isFlat 24 = .ok (.bipush 14, 2) := by decide +kernel
theorem dX5_isFlat_26 : decode cX5_isFlat 26 = .ok (.if_icmp .ne 7, 3) := by decide +kernel
theorem dX5_isFlat_29 : decode cX5_isFlat 29 = .ok (.iconst 1, 1) := by decide +kernel
theorem dX5_isFlat_30 : decode cX5_isFlat 30 = .ok (.goto 4, 3) := by decide +kernel
theorem dX5_isFlat_33 : decode cX5_isFlat 33 = .ok (.iconst 0, 1) := by decide +kernel
theorem dX5_isFlat_34 : decode cX5_isFlat 34 = .ok (.ireturn, 1) := by decide +kernel
theorem dX5_need_0 : decode cX5_need 0 = .ok (.iload_n 0, 1) := by decide +kernel
theorem dX5_need_1 : decode cX5_need 1 = .ok (.invokestatic 71, 3) := by decide +kernel
theorem dX5_need_4 : decode cX5_need 4 = .ok (.ifCond .eq 7, 3) := by decide +kernel
theorem dX5_need_7 : decode cX5_need 7 = .ok (.iconst 1, 1) := by decide +kernel
theorem dX5_need_8 : decode cX5_need 8 = .ok (.goto 4, 3) := by decide +kernel
theorem dX5_need_11 : decode cX5_need 11 = .ok (.iconst 2, 1) := by decide +kernel
theorem dX5_need_12 : decode cX5_need 12 = .ok (.ireturn, 1) := by decide +kernel
theorem dX5_below_0 : decode cX5_below 0 = .ok (.iload_n 0, 1) := by decide +kernel
theorem dX5_below_1 : decode cX5_below 1 = .ok (.iconst 4, 1) := by decide +kernel
theorem dX5_below_2 : decode cX5_below 2 = .ok (.if_icmp .ge 5, 3) := by decide +kernel
theorem dX5_below_5 : decode cX5_below 5 = .ok (.iconst 0, 1) := by decide +kernel
theorem dX5_below_6 : decode cX5_below 6 = .ok (.ireturn, 1) := by decide +kernel
theorem dX5_below_7 : decode cX5_below 7 = .ok (.iload_n 0, 1) := by decide +kernel
theorem dX5_below_8 : decode cX5_below 8 = .ok (.bipush 7, 2) := by decide +kernel
theorem dX5_below_10 : decode cX5_below 10 = .ok (.if_icmp .ge 9, 3) := by decide +kernel
theorem dX5_below_13 : decode cX5_below 13 = .ok (.iconst 3, 1) := by decide +kernel
theorem dX5_below_14 : decode cX5_below 14 = .ok (.iload_n 0, 1) := by decide +kernel
theorem dX5_below_15 : decode cX5_below 15 = .ok (.iconst 4, 1) := by decide +kernel
theorem dX5_below_16 : decode cX5_below 16 = .ok (.isub, 1) := by decide +kernel
theorem dX5_below_17 : decode cX5_below 17 = .ok (.ishl, 1) := by decide +kernel
theorem dX5_below_18 : decode cX5_below 18 = .ok (.ireturn, 1) := by decide +kernel
theorem dX5_below_19 : decode cX5_below 19 = .ok (.iload_n 0, 1) := by decide +kernel
theorem dX5_below_20 : decode cX5_below 20 = .ok (.bipush 10, 2) := by decide +kernel
theorem dX5_below_22 : decode cX5_below 22 = .ok (.if_icmp .ge 9, 3) := by decide +kernel
theorem dX5_below_25 : decode cX5_below 25 = .ok (.iconst 1, 1) := by decide +kernel
theorem dX5_below_26 : decode cX5_below 26 = .ok (.iload_n 0, 1) := by decide +kernel
theorem dX5_below_27 : decode cX5_below 27 = .ok (.iconst 3, 1) := by decide +kernel
theorem dX5_below_28 : decode cX5_below 28 = .ok (.isub, 1) := by decide +kernel
theorem dX5_below_29 : decode cX5_below 29 = .ok (.ishl, 1) := by decide +kernel
theorem dX5_below_30 : decode cX5_below 30 = .ok (.ireturn, 1) := by decide +kernel
theorem dX5_below_31 : decode cX5_below 31 = .ok (.iload_n 0, 1) := by decide +kernel
theorem dX5_below_32 : decode cX5_below 32 = .ok (.bipush 12, 2) := by decide +kernel
theorem dX5_below_34 : decode cX5_below 34 = .ok (.if_icmp .ge 9, 3) := by decide +kernel
theorem dX5_below_37 : decode cX5_below 37 = .ok (.iconst 3, 1) := by decide +kernel
theorem dX5_below_38 : decode cX5_below 38 = .ok (.iload_n 0, 1) := by decide +kernel
theorem dX5_below_39 : decode cX5_below 39 = .ok (.iconst 3, 1) := by decide +kernel
theorem dX5_below_40 : decode cX5_below 40 = .ok (.isub, 1) := by decide +kernel
theorem dX5_below_41 : decode cX5_below 41 = .ok (.ishl, 1) := by decide +kernel
theorem dX5_below_42 : decode cX5_below 42 = .ok (.ireturn, 1) := by decide +kernel
theorem dX5_below_43 : decode cX5_below 43 = .ok (.iload_n 0, 1) := by decide +kernel
theorem dX5_below_44 : decode cX5_below 44 = .ok (.bipush 14, 2) := by decide +kernel
theorem dX5_below_46 : decode cX5_below 46 = .ok (.if_icmp .ge 11, 3) := by decide +kernel
theorem dX5_below_49 : decode cX5_below 49 = .ok (.iconst 1, 1) := by decide +kernel
theorem dX5_below_50 : decode cX5_below 50 = .ok (.iload_n 0, 1) := by decide +kernel
theorem dX5_below_51 : decode cX5_below 51 = .ok (.iconst 2, 1) := by decide +kernel
theorem dX5_below_52 : decode cX5_below 52 = .ok (.isub, 1) := by decide +kernel
theorem dX5_below_53 : decode cX5_below 53 = .ok (.ishl, 1) := by decide +kernel
theorem dX5_below_54 : decode cX5_below 54 = .ok (.goto 18, 3) := by decide +kernel
theorem dX5_below_57 : decode cX5_below 57 = .ok (.iload_n 0, 1) := by decide +kernel
theorem dX5_below_58 : decode cX5_below 58 = .ok (.bipush 14, 2) := by decide +kernel
theorem dX5_below_60 : decode cX5_below 60 = .ok (.if_icmp .ne 9, 3) := by decide +kernel
theorem dX5_below_63 : decode cX5_below 63 = .ok (.sipush 12288, 3) := by decide +kernel
theorem dX5_below_66 : decode cX5_below 66 = .ok (.goto 6, 3) := by decide +kernel
theorem dX5_below_69 : decode cX5_below 69 = .ok (.sipush 16384, 3) := by decide +kernel
theorem dX5_below_72 : decode cX5_below 72 = .ok (.ireturn, 1) := by decide +kernel
theorem dX5_weighs_0 : decode cX5_weighs 0 = .ok (.iload_n 0, 1) := by decide +kernel
theorem dX5_weighs_1 : decode cX5_weighs 1 = .ok (.invokestatic 75, 3) := by decide +kernel
theorem dX5_weighs_4 : decode cX5_weighs 4 = .ok (.iload_n 1, 1) := by decide +kernel
theorem dX5_weighs_5 : decode cX5_weighs 5 = .ok (.iconst 3, 1) := by decide +kernel
theorem dX5_weighs_6 : decode cX5_weighs 6 = .ok (.if_icmp .ne 8, 3) := by decide +kernel
theorem dX5_weighs_9 : decode cX5_weighs 9 = .ok (.bipush 16, 2) := by decide +kernel
theorem dX5_weighs_11 : decode cX5_weighs 11 = .ok (.goto 5, 3) := by decide +kernel
theorem dX5_weighs_14 : decode cX5_weighs 14 = .ok (.bipush 8, 2) := by decide +kernel
theorem dX5_weighs_16 : decode cX5_weighs 16 = .ok (.imul, 1) := by decide +kernel
theorem dX5_weighs_17 : decode cX5_weighs 17 = .ok (.ireturn, 1) := by decide +kernel
theorem dX5_bearsBy_0 : decode cX5_bearsBy 0 = .ok (.iload_n 0, 1) := by decide +kernel
theorem dX5_bearsBy_1 : decode cX5_bearsBy 1 = .ok (.iconst 1, 1) := by decide +kernel
theorem dX5_bearsBy_2 : decode cX5_bearsBy 2 = .ok (.if_icmp .ne 8, 3) := by decide +kernel
theorem dX5_bearsBy_5 : decode cX5_bearsBy 5 = .ok (.bipush 30, 2) := by decide +kernel
theorem dX5_bearsBy_7 : decode cX5_bearsBy 7 = .ok (.goto 25, 3) := by decide +kernel
theorem dX5_bearsBy_10 : decode cX5_bearsBy 10 = .ok (.iload_n 0, 1) := by decide +kernel
theorem dX5_bearsBy_11 : decode cX5_bearsBy 11 = .ok (.iconst 2, 1) := by decide +kernel
theorem dX5_bearsBy_12 : decode cX5_bearsBy 12 = .ok (.if_icmp .ne 8, 3) := by decide +kernel
theorem dX5_bearsBy_15 : decode cX5_bearsBy 15 = .ok (.bipush 45, 2) := by decide +kernel
theorem dX5_bearsBy_17 : decode cX5_bearsBy 17 = .ok (.goto 15, 3) := by decide +kernel
theorem dX5_bearsBy_20 : decode cX5_bearsBy 20 = .ok (.iload_n 0, 1) := by decide +kernel
theorem dX5_bearsBy_21 : decode cX5_bearsBy 21 = .ok (.iconst 3, 1) := by decide +kernel
theorem dX5_bearsBy_22 : decode cX5_bearsBy 22 = .ok (.if_icmp .ne 8, 3) := by decide +kernel
theorem dX5_bearsBy_25 : decode cX5_bearsBy 25 = .ok (.bipush 80, 2) := by decide +kernel
theorem dX5_bearsBy_27 : decode cX5_bearsBy 27 = .ok (.goto 5, 3) := by decide +kernel
theorem dX5_bearsBy_30 : decode cX5_bearsBy 30 = .ok (.bipush 60, 2) := by decide +kernel
theorem dX5_bearsBy_32 : decode cX5_bearsBy 32 = .ok (.ireturn, 1) := by decide +kernel
theorem dX5_grip_0 : decode cX5_grip 0 = .ok (.iload_n 0, 1) := by decide +kernel
theorem dX5_grip_1 : decode cX5_grip 1 = .ok (.iconst 1, 1) := by decide +kernel
theorem dX5_grip_2 : decode cX5_grip 2 = .ok (.if_icmp .ne 8, 3) := by decide +kernel
theorem dX5_grip_5 : decode cX5_grip 5 = .ok (.bipush 8, 2) := by decide +kernel
theorem dX5_grip_7 : decode cX5_grip 7 = .ok (.goto 14, 3) := by decide +kernel
theorem dX5_grip_10 : decode cX5_grip 10 = .ok (.iload_n 0, 1) := by decide +kernel
theorem dX5_grip_11 : decode cX5_grip 11 = .ok (.iconst 2, 1) := by decide +kernel
theorem dX5_grip_12 : decode cX5_grip 12 = .ok (.if_icmp .ne 8, 3) := by decide +kernel
theorem dX5_grip_15 : decode cX5_grip 15 = .ok (.bipush (-8), 2) := by decide +kernel
theorem dX5_grip_17 : decode cX5_grip 17 = .ok (.goto 4, 3) := by decide +kernel
theorem dX5_grip_20 : decode cX5_grip 20 = .ok (.iconst 0, 1) := by decide +kernel
theorem dX5_grip_21 : decode cX5_grip 21 = .ok (.ireturn, 1) := by decide +kernel
theorem dX5_there_0 : decode cX5_there 0 = .ok (.iconst 0, 1) := by decide +kernel
theorem dX5_there_1 : decode cX5_there 1 = .ok (.istore_n 1, 1) := by decide +kernel
theorem dX5_there_2 : decode cX5_there 2 = .ok (.iconst 0, 1) := by decide +kernel
theorem dX5_there_3 : decode cX5_there 3 = .ok (.istore_n 2, 1) := by decide +kernel
theorem dX5_there_4 : decode cX5_there 4 = .ok (.iload_n 2, 1) := by decide +kernel
theorem dX5_there_5 : decode cX5_there 5 = .ok (.bipush 16, 2) := by decide +kernel
theorem dX5_there_7 : decode cX5_there 7 = .ok (.if_icmp .ge 25, 3) := by decide +kernel
theorem dX5_there_10 : decode cX5_there 10 = .ok (.iload_n 1, 1) := by decide +kernel
theorem dX5_there_11 : decode cX5_there 11 = .ok (.aload_n 0, 1) := by decide +kernel
theorem dX5_there_12 : decode cX5_there 12 = .ok (.iload_n 2, 1) := by decide +kernel
theorem dX5_there_13 : decode cX5_there 13 = .ok (.iaload, 1) := by decide +kernel
theorem dX5_there_14 : decode cX5_there 14 = .ok (.ifCond .le 9, 3) := by decide +kernel
theorem dX5_there_17 : decode cX5_there 17 = .ok (.iconst 1, 1) := by decide +kernel
theorem dX5_there_18 : decode cX5_there 18 = .ok (.iload_n 2, 1) := by decide +kernel
theorem dX5_there_19 : decode cX5_there 19 = .ok (.ishl, 1) := by decide +kernel
theorem dX5_there_20 : decode cX5_there 20 = .ok (.goto 4, 3) := by decide +kernel
theorem dX5_there_23 : decode cX5_there 23 = .ok (.iconst 0, 1) := by decide +kernel
theorem dX5_there_24 : decode cX5_there 24 = .ok (.ior, 1) := by decide +kernel
theorem dX5_there_25 : decode cX5_there 25 = .ok (.istore_n 1, 1) := by decide +kernel
theorem dX5_there_26 : decode cX5_there 26 = .ok (.iinc 2 1, 3) := by decide +kernel
theorem dX5_there_29 : decode cX5_there 29 = .ok (.goto (-25), 3) := by decide +kernel
theorem dX5_there_32 : decode cX5_there 32 = .ok (.iload_n 1, 1) := by decide +kernel
theorem dX5_there_33 : decode cX5_there 33 = .ok (.ireturn, 1) := by decide +kernel
theorem dX5_used_0 : decode cX5_used 0 = .ok (.iconst 0, 1) := by decide +kernel
theorem dX5_used_1 : decode cX5_used 1 = .ok (.istore_n 2, 1) := by decide +kernel
theorem dX5_used_2 : decode cX5_used 2 = .ok (.iconst 0, 1) := by decide +kernel
theorem dX5_used_3 : decode cX5_used 3 = .ok (.istore_n 3, 1) := by decide +kernel
theorem dX5_used_4 : decode cX5_used 4 = .ok (.iload_n 3, 1) := by decide +kernel
theorem dX5_used_5 : decode cX5_used 5 = .ok (.bipush 16, 2) := by decide +kernel
theorem dX5_used_7 : decode cX5_used 7 = .ok (.if_icmp .ge 29, 3) := by decide +kernel
theorem dX5_used_10 : decode cX5_used 10 = .ok (.iload_n 2, 1) := by decide +kernel
theorem dX5_used_11 : decode cX5_used 11 = .ok (.aload_n 0, 1) := by decide +kernel
theorem dX5_used_12 : decode cX5_used 12 = .ok (.iload_n 3, 1) := by decide +kernel
theorem dX5_used_13 : decode cX5_used 13 = .ok (.iaload, 1) := by decide +kernel
theorem dX5_used_14 : decode cX5_used 14 = .ok (.iload_n 1, 1) := by decide +kernel
theorem dX5_used_15 : decode cX5_used 15 = .ok (.iconst 1, 1) := by decide +kernel
theorem dX5_used_16 : decode cX5_used 16 = .ok (.iadd, 1) := by decide +kernel
theorem dX5_used_17 : decode cX5_used 17 = .ok (.if_icmp .ne 10, 3) := by decide +kernel
theorem dX5_used_20 : decode cX5_used 20 = .ok (.iload_n 3, 1) := by decide +kernel
theorem dX5_used_21 : decode cX5_used 21 = .ok (.invokestatic 75, 3) := by decide +kernel
theorem dX5_used_24 : decode cX5_used 24 = .ok (.goto 4, 3) := by decide +kernel
theorem dX5_used_27 : decode cX5_used 27 = .ok (.iconst 0, 1) := by decide +kernel
theorem dX5_used_28 : decode cX5_used 28 = .ok (.iadd, 1) := by decide +kernel
theorem dX5_used_29 : decode cX5_used 29 = .ok (.istore_n 2, 1) := by decide +kernel
theorem dX5_used_30 : decode cX5_used 30 = .ok (.iinc 3 1, 3) := by decide +kernel
theorem dX5_used_33 : decode cX5_used 33 = .ok (.goto (-29), 3) := by decide +kernel
theorem dX5_used_36 : decode cX5_used 36 = .ok (.iload_n 2, 1) := by decide +kernel
theorem dX5_used_37 : decode cX5_used 37 = .ok (.ireturn, 1) := by decide +kernel
theorem dX5_left_0 : decode cX5_left 0 = .ok (.aload_n 0, 1) := by decide +kernel
theorem dX5_left_1 : decode cX5_left 1 = .ok (.getfield 13, 3) := by decide +kernel
theorem dX5_left_4 : decode cX5_left 4 = .ok (.iload_n 2, 1) := by decide +kernel
theorem dX5_left_5 : decode cX5_left 5 = .ok (.iaload, 1) := by decide +kernel
theorem dX5_left_6 : decode cX5_left 6 = .ok (.aload_n 1, 1) := by decide +kernel
theorem dX5_left_7 : decode cX5_left 7 = .ok (.iload_n 2, 1) := by decide +kernel
theorem dX5_left_8 : decode cX5_left 8 = .ok (.invokestatic 79, 3) := by decide +kernel
theorem dX5_left_11 : decode cX5_left 11 = .ok (.isub, 1) := by decide +kernel
theorem dX5_left_12 : decode cX5_left 12 = .ok (.ireturn, 1) := by decide +kernel
theorem dX5_layLoads_0 : decode cX5_layLoads 0 = .ok (.iconst 0, 1) := by decide +kernel
theorem dX5_layLoads_1 : decode cX5_layLoads 1 = .ok (.istore_n 2, 1) := by decide +kernel
theorem dX5_layLoads_2 : decode cX5_layLoads 2 = .ok (.iload_n 2, 1) := by decide +kernel
theorem dX5_layLoads_3 : decode cX5_layLoads 3 = .ok (.bipush 16, 2) := by decide +kernel
theorem dX5_layLoads_5 : decode cX5_layLoads 5 = .ok (.if_icmp .ge 16, 3) := by decide +kernel
theorem dX5_layLoads_8 : decode cX5_layLoads 8 = .ok (.aload_n 0, 1) := by decide +kernel
theorem dX5_layLoads_9 : decode cX5_layLoads 9 = .ok (.getfield 28, 3) := by decide +kernel
theorem dX5_layLoads_12 : decode cX5_layLoads 12 = .ok (.iload_n 2, 1) := by decide +kernel
theorem dX5_layLoads_13 : decode cX5_layLoads 13 = .ok (.iconst 0, 1) := by decide +kernel
theorem dX5_layLoads_14 : decode cX5_layLoads 14 = .ok (.iastore, 1) := by decide +kernel
theorem dX5_layLoads_15 : decode cX5_layLoads 15 = .ok (.iinc 2 1, 3) := by decide +kernel
theorem dX5_layLoads_18 : decode cX5_layLoads 18 = .ok (.goto (-16), 3) := by decide +kernel
theorem dX5_layLoads_21 : decode cX5_layLoads 21 = .ok (.bipush 15, 2) := by decide +kernel
theorem dX5_layLoads_23 : decode cX5_layLoads 23 = .ok (.istore_n 2, 1) := by decide +kernel
theorem dX5_layLoads_24 : decode cX5_layLoads 24 = .ok (.iload_n 2, 1) := by decide +kernel
theorem dX5_layLoads_25 : decode cX5_layLoads 25 = .ok (.ifCond .lt 87, 3) := by decide +kernel
theorem dX5_layLoads_28 : decode cX5_layLoads 28 = .ok (.aload_n 1, 1) := by decide +kernel
theorem dX5_layLoads_29 : decode cX5_layLoads 29 = .ok (.iload_n 2, 1) := by decide +kernel
theorem dX5_layLoads_30 : decode cX5_layLoads 30 = .ok (.iaload, 1) := by decide +kernel
theorem dX5_layLoads_31 : decode cX5_layLoads 31 = .ok (.ifCond .le 75, 3) := by decide +kernel
theorem dX5_layLoads_34 : decode cX5_layLoads 34 = .ok (.iload_n 2, 1) := by decide +kernel
theorem dX5_layLoads_35 : decode cX5_layLoads 35 = .ok (.aload_n 1, 1) := by decide +kernel
theorem dX5_layLoads_36 : decode cX5_layLoads 36 = .ok (.iload_n 2, 1) := by decide +kernel
theorem dX5_layLoads_37 : decode cX5_layLoads 37 = .ok (.iaload, 1) := by decide +kernel
theorem dX5_layLoads_38 : decode cX5_layLoads 38 = .ok (.iconst 1, 1) := by decide +kernel
theorem dX5_layLoads_39 : decode cX5_layLoads 39 = .ok (.isub, 1) := by decide +kernel
theorem dX5_layLoads_40 : decode cX5_layLoads 40 = .ok (.invokestatic 83, 3) := by decide +kernel
theorem dX5_layLoads_43 : decode cX5_layLoads 43 = .ok (.aload_n 0, 1) := by decide +kernel
theorem dX5_layLoads_44 : decode cX5_layLoads 44 = .ok (.getfield 28, 3) := by decide +kernel
theorem dX5_layLoads_47 : decode cX5_layLoads 47 = .ok (.iload_n 2, 1) := by decide +kernel
theorem dX5_layLoads_48 : decode cX5_layLoads 48 = .ok (.iaload, 1) := by decide +kernel
theorem dX5_layLoads_49 : decode cX5_layLoads 49 = .ok (.iadd, 1) := by decide +kernel
theorem dX5_layLoads_50 : decode cX5_layLoads 50 = .ok (.istore_n 3, 1) := by decide +kernel
theorem dX5_layLoads_51 : decode cX5_layLoads 51 = .ok (.iconst 0, 1) := by decide +kernel
theorem dX5_layLoads_52 : decode cX5_layLoads 52 = .ok (.istore 4, 2) := by decide +kernel
theorem dX5_layLoads_54 : decode cX5_layLoads 54 = .ok (.iload 4, 2) := by decide +kernel
theorem dX5_layLoads_56 : decode cX5_layLoads 56 = .ok (.iload_n 2, 1) := by decide +kernel
theorem dX5_layLoads_57 : decode cX5_layLoads 57 = .ok (.if_icmp .ge 49, 3) := by decide +kernel
theorem dX5_layLoads_60 : decode cX5_layLoads 60 = .ok (.aload_n 0, 1) := by decide +kernel
theorem dX5_layLoads_61 : decode cX5_layLoads 61 = .ok (.getfield 28, 3) := by decide +kernel
theorem dX5_layLoads_64 : decode cX5_layLoads 64 = .ok (.iload 4, 2) := by decide +kernel
theorem dX5_layLoads_66 : decode cX5_layLoads 66 = .ok (.dup2, 1) := by decide +kernel
theorem dX5_layLoads_67 : decode cX5_layLoads 67 = .ok (.iaload, 1) := by decide +kernel
theorem dX5_layLoads_68 : decode cX5_layLoads 68 = .ok (.iload_n 2, 1) := by decide +kernel
theorem dX5_layLoads_69 : decode cX5_layLoads 69 = .ok (.invokestatic 87, 3) := by decide +kernel
theorem dX5_layLoads_72 : decode cX5_layLoads 72 = .ok (.iload 4, 2) := by decide +kernel
theorem dX5_layLoads_74 : decode cX5_layLoads 74 = .ok (.invokestatic 90, 3) := by decide +kernel
theorem dX5_layLoads_77 : decode cX5_layLoads 77 = .ok (.ifCond .eq 20, 3) := by decide +kernel
theorem dX5_layLoads_80 : decode cX5_layLoads 80 = .ok (.iload_n 2, 1) := by decide +kernel
theorem dX5_layLoads_81 : decode cX5_layLoads 81 = .ok (.invokestatic 71, 3) := by decide +kernel
theorem dX5_layLoads_84 : decode cX5_layLoads 84 = .ok (.ifCond .eq 9, 3) := by decide +kernel
theorem dX5_layLoads_87 : decode cX5_layLoads 87 = .ok (.iload_n 3, 1) := by decide +kernel
theorem dX5_layLoads_88 : decode cX5_layLoads 88 = .ok (.iconst 2, 1) := by decide +kernel
theorem dX5_layLoads_89 : decode cX5_layLoads 89 = .ok (.idiv, 1) := by decide +kernel
theorem dX5_layLoads_90 : decode cX5_layLoads 90 = .ok (.goto 8, 3) := by decide +kernel
theorem dX5_layLoads_93 : decode cX5_layLoads 93 = .ok (.iload_n 3, 1) := by decide +kernel
theorem dX5_layLoads_94 : decode cX5_layLoads 94 = .ok (.goto 4, 3) := by decide +kernel
theorem dX5_layLoads_97 : decode cX5_layLoads 97 = .ok (.iconst 0, 1) := by decide +kernel
theorem dX5_layLoads_98 : decode cX5_layLoads 98 = .ok (.iadd, 1) := by decide +kernel
theorem dX5_layLoads_99 : decode cX5_layLoads 99 = .ok (.iastore, 1) := by decide +kernel
theorem dX5_layLoads_100 : decode cX5_layLoads 100 = .ok (.iinc 4 1, 3) := by decide +kernel
theorem dX5_layLoads_103 : decode cX5_layLoads 103 = .ok (.goto (-49), 3) := by decide +kernel
theorem dX5_layLoads_106 : decode cX5_layLoads 106 = .ok (.iinc 2 (-1), 3) := by decide +kernel
theorem dX5_layLoads_109 : decode cX5_layLoads 109 = .ok (.goto (-85), 3) := by decide +kernel
theorem dX5_layLoads_112 : decode cX5_layLoads 112 = .ok (.return_, 1) := by decide +kernel
theorem dX5_spreadOf_0 : decode cX5_spreadOf 0 = .ok (.iload_n 1, 1) := by decide +kernel
theorem dX5_spreadOf_1 : decode cX5_spreadOf 1 = .ok (.istore_n 2, 1) := by decide +kernel
theorem dX5_spreadOf_2 : decode cX5_spreadOf 2 = .ok (.iconst 0, 1) := by decide +kernel
theorem dX5_spreadOf_3 : decode cX5_spreadOf 3 = .ok (.istore_n 3, 1) := by decide +kernel
theorem dX5_spreadOf_4 : decode cX5_spreadOf 4 = .ok (.iload_n 3, 1) := by decide +kernel
theorem dX5_spreadOf_5 : decode cX5_spreadOf 5 = .ok (.bipush 16, 2) := by decide +kernel
theorem dX5_spreadOf_7 : decode cX5_spreadOf 7 = .ok (.if_icmp .ge 34, 3) := by decide +kernel
theorem dX5_spreadOf_10 : decode cX5_spreadOf 10 = .ok (.iload_n 2, 1) := by decide +kernel
theorem dX5_spreadOf_11 : decode cX5_spreadOf 11 = .ok (.aload_n 0, 1) := by decide +kernel
theorem dX5_spreadOf_12 : decode cX5_spreadOf 12 = .ok (.iload_n 3, 1) := by decide +kernel
theorem dX5_spreadOf_13 : decode cX5_spreadOf 13 = .ok (.iaload, 1) := by decide +kernel
theorem dX5_spreadOf_14 : decode cX5_spreadOf 14 = .ok (.ifCond .le 18, 3) := by decide +kernel
theorem dX5_spreadOf_17 : decode cX5_spreadOf 17 = .ok (.iload_n 3, 1) := by decide +kernel
theorem dX5_spreadOf_18 : decode cX5_spreadOf 18 = .ok (.invokestatic 87, 3) := by decide +kernel
theorem dX5_spreadOf_21 : decode cX5_spreadOf 21 = .ok (.iload_n 2, 1) := by decide +kernel
theorem dX5_spreadOf_22 : decode cX5_spreadOf 22 = .ok (.iand, 1) := by decide +kernel
theorem dX5_spreadOf_23 : decode cX5_spreadOf 23 = .ok (.ifCond .eq 9, 3) := by decide +kernel
theorem dX5_spreadOf_26 : decode cX5_spreadOf 26 = .ok (.iconst 1, 1) := by decide +kernel
theorem dX5_spreadOf_27 : decode cX5_spreadOf 27 = .ok (.iload_n 3, 1) := by decide +kernel
theorem dX5_spreadOf_28 : decode cX5_spreadOf 28 = .ok (.ishl, 1) := by decide +kernel
theorem dX5_spreadOf_29 : decode cX5_spreadOf 29 = .ok (.goto 4, 3) := by decide +kernel
theorem dX5_spreadOf_32 : decode cX5_spreadOf 32 = .ok (.iconst 0, 1) := by decide +kernel
theorem dX5_spreadOf_33 : decode cX5_spreadOf 33 = .ok (.ior, 1) := by decide +kernel
theorem dX5_spreadOf_34 : decode cX5_spreadOf 34 = .ok (.istore_n 2, 1) := by decide +kernel
theorem dX5_spreadOf_35 : decode cX5_spreadOf 35 = .ok (.iinc 3 1, 3) := by decide +kernel
theorem dX5_spreadOf_38 : decode cX5_spreadOf 38 = .ok (.goto (-34), 3) := by decide +kernel
theorem dX5_spreadOf_41 : decode cX5_spreadOf 41 = .ok (.iload_n 2, 1) := by decide +kernel
theorem dX5_spreadOf_42 : decode cX5_spreadOf 42 = .ok (.ireturn, 1) := by decide +kernel
theorem dX5_fallAll_0 : decode cX5_fallAll 0 = .ok (.aload_n 0, 1) := by decide +kernel
theorem dX5_fallAll_1 : decode cX5_fallAll 1 = .ok (.iload_n 1, 1) := by decide +kernel
theorem dX5_fallAll_2 : decode cX5_fallAll 2 = .ok (.invokestatic 94, 3) := by decide +kernel
theorem dX5_fallAll_5 : decode cX5_fallAll 5 = .ok (.istore_n 2, 1) := by decide +kernel
theorem dX5_fallAll_6 : decode cX5_fallAll 6 = .ok (.iconst 0, 1) := by decide +kernel
theorem dX5_fallAll_7 : decode cX5_fallAll 7 = .ok (.istore_n 3, 1) := by decide +kernel
theorem dX5_fallAll_8 : decode cX5_fallAll 8 = .ok (.iload_n 3, 1) := by decide +kernel
theorem dX5_fallAll_9 : decode cX5_fallAll 9 = .ok (.bipush 16, 2) := by decide +kernel
theorem dX5_fallAll_11 : decode cX5_fallAll 11 = .ok (.if_icmp .ge 27, 3) := by decide +kernel
theorem dX5_fallAll_14 : decode cX5_fallAll 14 = .ok (.aload_n 0, 1) := by decide +kernel
theorem dX5_fallAll_15 : decode cX5_fallAll 15 = .ok (.iload_n 3, 1) := by decide +kernel
theorem dX5_fallAll_16 : decode cX5_fallAll 16 = .ok (.iload_n 2, 1) := by decide +kernel
theorem dX5_fallAll_17 : decode cX5_fallAll 17 = .ok (.iload_n 3, 1) := by decide +kernel
theorem dX5_fallAll_18 : decode cX5_fallAll 18 = .ok (.invokestatic 90, 3) := by decide +kernel
theorem dX5_fallAll_21 : decode cX5_fallAll 21 = .ok (.ifCond .eq 7, 3) := by decide +kernel
theorem dX5_fallAll_24 : decode cX5_fallAll 24 = .ok (.iconst 0, 1) := by decide +kernel
theorem dX5_fallAll_25 : decode cX5_fallAll 25 = .ok (.goto 6, 3) := by decide +kernel
theorem dX5_fallAll_28 : decode cX5_fallAll 28 = .ok (.aload_n 0, 1) := by decide +kernel
theorem dX5_fallAll_29 : decode cX5_fallAll 29 = .ok (.iload_n 3, 1) := by decide +kernel
theorem dX5_fallAll_30 : decode cX5_fallAll 30 = .ok (.iaload, 1) := by decide +kernel
theorem dX5_fallAll_31 : decode cX5_fallAll 31 = .ok (.iastore, 1) := by decide +kernel
theorem dX5_fallAll_32 : decode cX5_fallAll 32 = .ok (.iinc 3 1, 3) := by decide +kernel
theorem dX5_fallAll_35 : decode cX5_fallAll 35 = .ok (.goto (-27), 3) := by decide +kernel
theorem dX5_fallAll_38 : decode cX5_fallAll 38 = .ok (.iload_n 2, 1) := by decide +kernel
theorem dX5_fallAll_39 : decode cX5_fallAll 39 = .ok (.invokestatic 97, 3) := by decide +kernel
theorem dX5_fallAll_42 : decode cX5_fallAll 42 = .ok (.ireturn, 1) := by decide +kernel
theorem dX5_weak_0 : decode cX5_weak 0 = .ok (.aload_n 0, 1) := by decide +kernel
theorem dX5_weak_1 : decode cX5_weak 1 = .ok (.aload_n 1, 1) := by decide +kernel
theorem dX5_weak_2 : decode cX5_weak 2 = .ok (.invokevirtual 100, 3) := by decide +kernel
theorem dX5_weak_5 : decode cX5_weak 5 = .ok (.iconst 0, 1) := by decide +kernel
theorem dX5_weak_6 : decode cX5_weak 6 = .ok (.istore_n 2, 1) := by decide +kernel
theorem dX5_weak_7 : decode cX5_weak 7 = .ok (.iconst 0, 1) := by decide +kernel
theorem dX5_weak_8 : decode cX5_weak 8 = .ok (.istore_n 3, 1) := by decide +kernel
theorem dX5_weak_9 : decode cX5_weak 9 = .ok (.iload_n 3, 1) := by decide +kernel
theorem dX5_weak_10 : decode cX5_weak 10 = .ok (.bipush 16, 2) := by decide +kernel
theorem dX5_weak_12 : decode cX5_weak 12 = .ok (.if_icmp .ge 42, 3) := by decide +kernel
theorem dX5_weak_15 : decode cX5_weak 15 = .ok (.iload_n 2, 1) := by decide +kernel
theorem dX5_weak_16 : decode cX5_weak 16 = .ok (.aload_n 1, 1) := by decide +kernel
theorem dX5_weak_17 : decode cX5_weak 17 = .ok (.iload_n 3, 1) := by decide +kernel
theorem dX5_weak_18 : decode cX5_weak 18 = .ok (.iaload, 1) := by decide +kernel
theorem dX5_weak_19 : decode cX5_weak 19 = .ok (.ifCond .le 26, 3) := by decide +kernel
theorem dX5_weak_22 : decode cX5_weak 22 = .ok (.aload_n 0, 1) := by decide +kernel
theorem dX5_weak_23 : decode cX5_weak 23 = .ok (.getfield 28, 3) := by decide +kernel
theorem dX5_weak_26 : decode cX5_weak 26 = .ok (.iload_n 3, 1) := by decide +kernel
theorem dX5_weak_27 : decode cX5_weak 27 = .ok (.iaload, 1) := by decide +kernel
theorem dX5_weak_28 : decode cX5_weak 28 = .ok (.aload_n 1, 1) := by decide +kernel
theorem dX5_weak_29 : decode cX5_weak 29 = .ok (.iload_n 3, 1) := by decide +kernel
theorem dX5_weak_30 : decode cX5_weak 30 = .ok (.iaload, 1) := by decide +kernel
theorem dX5_weak_31 : decode cX5_weak 31 = .ok (.iconst 1, 1) := by decide +kernel
theorem dX5_weak_32 : decode cX5_weak 32 = .ok (.isub, 1) := by decide +kernel
theorem dX5_weak_33 : decode cX5_weak 33 = .ok (.invokestatic 104, 3) := by decide +kernel
theorem dX5_weak_36 : decode cX5_weak 36 = .ok (.if_icmp .le 9, 3) := by decide +kernel
theorem dX5_weak_39 : decode cX5_weak 39 = .ok (.iconst 1, 1) := by decide +kernel
theorem dX5_weak_40 : decode cX5_weak 40 = .ok (.iload_n 3, 1) := by decide +kernel
theorem dX5_weak_41 : decode cX5_weak 41 = .ok (.ishl, 1) := by decide +kernel
theorem dX5_weak_42 : decode cX5_weak 42 = .ok (.goto 4, 3) := by decide +kernel
theorem dX5_weak_45 : decode cX5_weak 45 = .ok (.iconst 0, 1) := by decide +kernel
theorem dX5_weak_46 : decode cX5_weak 46 = .ok (.ior, 1) := by decide +kernel
theorem dX5_weak_47 : decode cX5_weak 47 = .ok (.istore_n 2, 1) := by decide +kernel
theorem dX5_weak_48 : decode cX5_weak 48 = .ok (.iinc 3 1, 3) := by decide +kernel
theorem dX5_weak_51 : decode cX5_weak 51 = .ok (.goto (-42), 3) := by decide +kernel
theorem dX5_weak_54 : decode cX5_weak 54 = .ok (.iload_n 2, 1) := by decide +kernel
theorem dX5_weak_55 : decode cX5_weak 55 = .ok (.ireturn, 1) := by decide +kernel
theorem dX5_settle_0 : decode cX5_settle 0 = .ok (.iconst 0, 1) := by decide +kernel
theorem dX5_settle_1 : decode cX5_settle 1 = .ok (.istore_n 2, 1) := by decide +kernel
theorem dX5_settle_2 : decode cX5_settle 2 = .ok (.aload_n 0, 1) := by decide +kernel
theorem dX5_settle_3 : decode cX5_settle 3 = .ok (.aload_n 1, 1) := by decide +kernel
theorem dX5_settle_4 : decode cX5_settle 4 = .ok (.invokevirtual 107, 3) := by decide +kernel
theorem dX5_settle_7 : decode cX5_settle 7 = .ok (.istore_n 3, 1) := by decide +kernel
theorem dX5_settle_8 : decode cX5_settle 8 = .ok (.iload_n 3, 1) := by decide +kernel
theorem dX5_settle_9 : decode cX5_settle 9 = .ok (.ifCond .eq 20, 3) := by decide +kernel
theorem dX5_settle_12 : decode cX5_settle 12 = .ok (.iload_n 2, 1) := by decide +kernel
theorem dX5_settle_13 : decode cX5_settle 13 = .ok (.aload_n 1, 1) := by decide +kernel
theorem dX5_settle_14 : decode cX5_settle 14 = .ok (.iload_n 3, 1) := by decide +kernel
theorem dX5_settle_15 : decode cX5_settle 15 = .ok (.invokestatic 111, 3) := by decide +kernel
theorem dX5_settle_18 : decode cX5_settle 18 = .ok (.iadd, 1) := by decide +kernel
theorem dX5_settle_19 : decode cX5_settle 19 = .ok (.istore_n 2, 1) := by decide +kernel
theorem dX5_settle_20 : decode cX5_settle 20 = .ok (.aload_n 0, 1) := by decide +kernel
theorem dX5_settle_21 : decode cX5_settle 21 = .ok (.aload_n 1, 1) := by decide +kernel
theorem dX5_settle_22 : decode cX5_settle 22 = .ok (.invokevirtual 107, 3) := by decide +kernel
theorem dX5_settle_25 : decode cX5_settle 25 = .ok (.istore_n 3, 1) := by decide +kernel
theorem dX5_settle_26 : decode cX5_settle 26 = .ok (.goto (-18), 3) := by decide +kernel
theorem dX5_settle_29 : decode cX5_settle 29 = .ok (.iload_n 2, 1) := by decide +kernel
theorem dX5_settle_30 : decode cX5_settle 30 = .ok (.ireturn, 1) := by decide +kernel
theorem dX5_write_0 : decode cX5_write 0 = .ok (.aload_n 0, 1) := by decide +kernel
theorem dX5_write_1 : decode cX5_write 1 = .ok (.iconst 0, 1) := by decide +kernel
theorem dX5_write_2 : decode cX5_write 2 = .ok (.putfield 59, 3) := by decide +kernel
theorem dX5_write_5 : decode cX5_write 5 = .ok (.iload_n 1, 1) := by decide +kernel
theorem dX5_write_6 : decode cX5_write 6 = .ok (.i2l, 1) := by decide +kernel
theorem dX5_write_7 : decode cX5_write 7 = .ok (.lconst 0, 1) := by decide +kernel
theorem dX5_write_8 : decode cX5_write 8 = .ok (.ldc2_w 114, 3) := by decide +kernel
theorem dX5_write_11 : decode cX5_write 11 = .ok (.invokestatic 65, 3) := by decide +kernel
theorem dX5_write_14 : decode cX5_write 14 = .ok (.ifCond .ne 6, 3) := by decide +kernel
theorem dX5_write_17 : decode cX5_write 17 = .ok (.bipush (-2), 2) := by decide +kernel
theorem dX5_write_19 : decode cX5_write 19 = .ok (.ireturn, 1) := by decide +kernel
theorem dX5_write_20 : decode cX5_write 20 = .ok (.aload_n 0, 1) := by decide +kernel
theorem dX5_write_21 : decode cX5_write 21 = .ok (.getfield 116, 3) := by decide +kernel
theorem dX5_write_24 : decode cX5_write 24 = .ok (.bipush 56, 2) := by decide +kernel
theorem dX5_write_26 : decode cX5_write 26 = .ok (.if_icmp .ne 6, 3) := by decide +kernel
theorem dX5_write_29 : decode cX5_write 29 = .ok (.bipush (-4), 2) := by decide +kernel
theorem dX5_write_31 : decode cX5_write 31 = .ok (.ireturn, 1) := by decide +kernel
theorem dX5_write_32 : decode cX5_write 32 = .ok (.aload_n 0, 1) := by decide +kernel
theorem dX5_write_33 : decode cX5_write 33 = .ok (.getfield 7, 3) := by decide +kernel
theorem dX5_write_36 : decode cX5_write 36 = .ok (.aload_n 0, 1) := by decide +kernel
theorem dX5_write_37 : decode cX5_write 37 = .ok (.getfield 116, 3) := by decide +kernel
theorem dX5_write_40 : decode cX5_write 40 = .ok (.iload_n 1, 1) := by decide +kernel
theorem dX5_write_41 : decode cX5_write 41 = .ok (.iastore, 1) := by decide +kernel
theorem dX5_write_42 : decode cX5_write 42 = .ok (.aload_n 0, 1) := by decide +kernel
theorem dX5_write_43 : decode cX5_write 43 = .ok (.dup, 1) := by decide +kernel
theorem dX5_write_44 : decode cX5_write 44 = .ok (.getfield 116, 3) := by decide +kernel
theorem dX5_write_47 : decode cX5_write 47 = .ok (.iconst 1, 1) := by decide +kernel
theorem dX5_write_48 : decode cX5_write 48 = .ok (.iadd, 1) := by decide +kernel
theorem dX5_write_49 : decode cX5_write 49 = .ok (.putfield 116, 3) := by decide +kernel
theorem dX5_write_52 : decode cX5_write 52 = .ok (.aload_n 0, 1) := by decide +kernel
theorem dX5_write_53 : decode cX5_write 53 = .ok (.getfield 116, 3) := by decide +kernel
theorem dX5_write_56 : decode cX5_write 56 = .ok (.ireturn, 1) := by decide +kernel
theorem dX5_wipe_0 : decode cX5_wipe 0 = .ok (.aload_n 0, 1) := by decide +kernel
theorem dX5_wipe_1 : decode cX5_wipe 1 = .ok (.iconst 0, 1) := by decide +kernel
theorem dX5_wipe_2 : decode cX5_wipe 2 = .ok (.putfield 59, 3) := by decide +kernel
theorem dX5_wipe_5 : decode cX5_wipe 5 = .ok (.aload_n 0, 1) := by decide +kernel
theorem dX5_wipe_6 : decode cX5_wipe 6 = .ok (.getfield 116, 3) := by decide +kernel
theorem dX5_wipe_9 : decode cX5_wipe 9 = .ok (.istore_n 1, 1) := by decide +kernel
theorem dX5_wipe_10 : decode cX5_wipe 10 = .ok (.aload_n 0, 1) := by decide +kernel
theorem dX5_wipe_11 : decode cX5_wipe 11 = .ok (.iconst 0, 1) := by decide +kernel
theorem dX5_wipe_12 : decode cX5_wipe 12 = .ok (.putfield 116, 3) := by decide +kernel
theorem dX5_wipe_15 : decode cX5_wipe 15 = .ok (.iload_n 1, 1) := by decide +kernel
theorem dX5_wipe_16 : decode cX5_wipe 16 = .ok (.ireturn, 1) := by decide +kernel
theorem dX5_figure_0 : decode cX5_figure 0 = .ok (.aload_n 0, 1) := by decide +kernel
theorem dX5_figure_1 : decode cX5_figure 1 = .ok (.getfield 119, 3) := by decide +kernel
theorem dX5_figure_4 : decode cX5_figure 4 = .ok (.aload_n 0, 1) := by decide +kernel
theorem dX5_figure_5 : decode cX5_figure 5 = .ok (.getfield 116, 3) := by decide +kernel
theorem dX5_figure_8 : decode cX5_figure 8 = .ok (.if_icmp .eq 25, 3) := by decide +kernel
theorem dX5_figure_11 : decode cX5_figure 11 = .ok (.aload_n 0, 1) := by decide +kernel
theorem dX5_figure_12 : decode cX5_figure 12 = .ok (.getfield 7, 3) := by decide +kernel
theorem dX5_figure_15 : decode cX5_figure 15 = .ok (.aload_n 0, 1) := by decide +kernel
theorem dX5_figure_16 : decode cX5_figure 16 = .ok (.getfield 119, 3) := by decide +kernel
theorem dX5_figure_19 : decode cX5_figure 19 = .ok (.iaload, 1) := by decide +kernel
theorem dX5_figure_20 : decode cX5_figure 20 = .ok (.bipush 48, 2) := by decide +kernel
theorem dX5_figure_22 : decode cX5_figure 22 = .ok (.isub, 1) := by decide +kernel
theorem dX5_figure_23 : decode cX5_figure 23 = .ok (.i2l, 1) := by decide +kernel
theorem dX5_figure_24 : decode cX5_figure 24 = .ok (.lconst 0, 1) := by decide +kernel
theorem dX5_figure_25 : decode cX5_figure 25 = .ok (.iload_n 1, 1) := by decide +kernel
theorem dX5_figure_26 : decode cX5_figure 26 = .ok (.i2l, 1) := by decide +kernel
theorem dX5_figure_27 : decode cX5_figure 27 = .ok (.invokestatic 65, 3) := by decide +kernel
theorem dX5_figure_30 : decode cX5_figure 30 = .ok (.ifCond .ne 6, 3) := by decide +kernel
theorem dX5_figure_33 : decode cX5_figure 33 = .ok (.bipush (-9), 2) := by decide +kernel
theorem dX5_figure_35 : decode cX5_figure 35 = .ok (.ireturn, 1) := by decide +kernel
theorem dX5_figure_36 : decode cX5_figure 36 = .ok (.aload_n 0, 1) := by decide +kernel
theorem dX5_figure_37 : decode cX5_figure 37 = .ok (.dup, 1) := by decide +kernel
theorem dX5_figure_38 : decode cX5_figure 38 = .ok (.getfield 119, 3) := by decide +kernel
theorem dX5_figure_41 : decode cX5_figure 41 = .ok (.iconst 1, 1) := by decide +kernel
theorem dX5_figure_42 : decode cX5_figure 42 = .ok (.iadd, 1) := by decide +kernel
theorem dX5_figure_43 : decode cX5_figure 43 = .ok (.putfield 119, 3) := by decide +kernel
theorem dX5_figure_46 : decode cX5_figure 46 = .ok (.aload_n 0, 1) := by decide +kernel
theorem dX5_figure_47 : decode cX5_figure 47 = .ok (.getfield 7, 3) := by decide +kernel
theorem dX5_figure_50 : decode cX5_figure 50 = .ok (.aload_n 0, 1) := by decide +kernel
theorem dX5_figure_51 : decode cX5_figure 51 = .ok (.getfield 119, 3) := by decide +kernel
theorem dX5_figure_54 : decode cX5_figure 54 = .ok (.iconst 1, 1) := by decide +kernel
theorem dX5_figure_55 : decode cX5_figure 55 = .ok (.isub, 1) := by decide +kernel
theorem dX5_figure_56 : decode cX5_figure 56 = .ok (.iaload, 1) := by decide +kernel
theorem dX5_figure_57 : decode cX5_figure 57 = .ok (.bipush 48, 2) := by decide +kernel
theorem dX5_figure_59 : decode cX5_figure 59 = .ok (.isub, 1) := by decide +kernel
theorem dX5_figure_60 : decode cX5_figure 60 = .ok (.ireturn, 1) := by decide +kernel
theorem dX5_enough_0 : decode cX5_enough 0 = .ok (.aload_n 0, 1) := by decide +kernel
theorem dX5_enough_1 : decode cX5_enough 1 = .ok (.getfield 16, 3) := by decide +kernel
theorem dX5_enough_4 : decode cX5_enough 4 = .ok (.iload_n 2, 1) := by decide +kernel
theorem dX5_enough_5 : decode cX5_enough 5 = .ok (.iaload, 1) := by decide +kernel
theorem dX5_enough_6 : decode cX5_enough 6 = .ok (.aload_n 0, 1) := by decide +kernel
theorem dX5_enough_7 : decode cX5_enough 7 = .ok (.getfield 19, 3) := by decide +kernel
theorem dX5_enough_10 : decode cX5_enough 10 = .ok (.iload_n 2, 1) := by decide +kernel
theorem dX5_enough_11 : decode cX5_enough 11 = .ok (.invokestatic 79, 3) := by decide +kernel
theorem dX5_enough_14 : decode cX5_enough 14 = .ok (.isub, 1) := by decide +kernel
theorem dX5_enough_15 : decode cX5_enough 15 = .ok (.iload_n 1, 1) := by decide +kernel
theorem dX5_enough_16 : decode cX5_enough 16 = .ok (.invokestatic 75, 3) := by decide +kernel
theorem dX5_enough_19 : decode cX5_enough 19 = .ok (.if_icmp .lt 7, 3) := by decide +kernel
theorem dX5_enough_22 : decode cX5_enough 22 = .ok (.iconst 1, 1) := by decide +kernel
theorem dX5_enough_23 : decode cX5_enough 23 = .ok (.goto 4, 3) := by decide +kernel
theorem dX5_enough_26 : decode cX5_enough 26 = .ok (.iconst 0, 1) := by decide +kernel
theorem dX5_enough_27 : decode cX5_enough 27 = .ok (.ireturn, 1) := by decide +kernel
theorem dX5_couldCome_0 : decode cX5_couldCome 0 = .ok (.aload_n 0, 1) := by decide +kernel
theorem dX5_couldCome_1 : decode cX5_couldCome 1 = .ok (.getfield 19, 3) := by decide +kernel
theorem dX5_couldCome_4 : decode cX5_couldCome 4 = .ok (.iload_n 1, 1) := by decide +kernel
theorem dX5_couldCome_5 : decode cX5_couldCome 5 = .ok (.iaload, 1) := by decide +kernel
theorem dX5_couldCome_6 : decode cX5_couldCome 6 = .ok (.ifCond .gt 20, 3) := by decide +kernel
theorem dX5_couldCome_9 : decode cX5_couldCome 9 = .ok (.iload_n 1, 1) := by decide +kernel
theorem dX5_couldCome_10 : decode cX5_couldCome 10 = .ok (.invokestatic 87, 3) := by decide +kernel
end
section
theorem dX5_couldCome_13 : decode cX5_couldCome 13 = .ok (.aload_n 0, 1) := by decide +kernel
theorem dX5_couldCome_14 : decode cX5_couldCome 14 = .ok (.getfield 19, 3) := by decide +kernel
theorem dX5_couldCome_17 : decode cX5_couldCome 17 = .ok (.invokestatic 122, 3) := by decide +kernel
theorem dX5_couldCome_20 : decode cX5_couldCome 20 = .ok (.iconst (-1), 1) := by decide +kernel
theorem dX5_couldCome_21 : decode cX5_couldCome 21 = .ok (.ixor, 1) := by decide +kernel
theorem dX5_couldCome_22 : decode cX5_couldCome 22 = .ok (.iand, 1) := by decide +kernel
theorem dX5_couldCome_23 : decode cX5_couldCome 23 = .ok (.ifCond .eq 5, 3) := by decide +kernel
theorem dX5_couldCome_26 : decode cX5_couldCome 26 = .ok (.iconst 0, 1) := by decide +kernel
theorem dX5_couldCome_27 : decode cX5_couldCome 27 = .ok (.ireturn, 1) := by decide +kernel
theorem dX5_couldCome_28 : decode cX5_couldCome 28 = .ok (.aload_n 0, 1) := by decide +kernel
theorem dX5_couldCome_29 : decode cX5_couldCome 29 = .ok (.iload_n 1, 1) := by decide +kernel
theorem dX5_couldCome_30 : decode cX5_couldCome 30 = .ok (.iconst 0, 1) := by decide +kernel
theorem dX5_couldCome_31 : decode cX5_couldCome 31 = .ok (.invokevirtual 125, 3) := by decide +kernel
theorem dX5_couldCome_34 : decode cX5_couldCome 34 = .ok (.ifCond .ne 30, 3) := by decide +kernel
theorem dX5_couldCome_37 : decode cX5_couldCome 37 = .ok (.aload_n 0, 1) := by decide +kernel
theorem dX5_couldCome_38 : decode cX5_couldCome 38 = .ok (.iload_n 1, 1) := by decide +kernel
theorem dX5_couldCome_39 : decode cX5_couldCome 39 = .ok (.iconst 1, 1) := by decide +kernel
theorem dX5_couldCome_40 : decode cX5_couldCome 40 = .ok (.invokevirtual 125, 3) := by decide +kernel
theorem dX5_couldCome_43 : decode cX5_couldCome 43 = .ok (.ifCond .ne 21, 3) := by decide +kernel
theorem dX5_couldCome_46 : decode cX5_couldCome 46 = .ok (.aload_n 0, 1) := by decide +kernel
theorem dX5_couldCome_47 : decode cX5_couldCome 47 = .ok (.iload_n 1, 1) := by decide +kernel
theorem dX5_couldCome_48 : decode cX5_couldCome 48 = .ok (.iconst 2, 1) := by decide +kernel
theorem dX5_couldCome_49 : decode cX5_couldCome 49 = .ok (.invokevirtual 125, 3) := by decide +kernel
theorem dX5_couldCome_52 : decode cX5_couldCome 52 = .ok (.ifCond .ne 12, 3) := by decide +kernel
theorem dX5_couldCome_55 : decode cX5_couldCome 55 = .ok (.aload_n 0, 1) := by decide +kernel
theorem dX5_couldCome_56 : decode cX5_couldCome 56 = .ok (.iload_n 1, 1) := by decide +kernel
theorem dX5_couldCome_57 : decode cX5_couldCome 57 = .ok (.iconst 3, 1) := by decide +kernel
theorem dX5_couldCome_58 : decode cX5_couldCome 58 = .ok (.invokevirtual 125, 3) := by decide +kernel
theorem dX5_couldCome_61 : decode cX5_couldCome 61 = .ok (.ifCond .eq 7, 3) := by decide +kernel
theorem dX5_couldCome_64 : decode cX5_couldCome 64 = .ok (.iconst 1, 1) := by decide +kernel
theorem dX5_couldCome_65 : decode cX5_couldCome 65 = .ok (.goto 4, 3) := by decide +kernel
theorem dX5_couldCome_68 : decode cX5_couldCome 68 = .ok (.iconst 0, 1) := by decide +kernel
theorem dX5_couldCome_69 : decode cX5_couldCome 69 = .ok (.ireturn, 1) := by decide +kernel
theorem dX5_couldAny_0 : decode cX5_couldAny 0 = .ok (.iconst 0, 1) := by decide +kernel
theorem dX5_couldAny_1 : decode cX5_couldAny 1 = .ok (.istore_n 1, 1) := by decide +kernel
theorem dX5_couldAny_2 : decode cX5_couldAny 2 = .ok (.iconst 0, 1) := by decide +kernel
theorem dX5_couldAny_3 : decode cX5_couldAny 3 = .ok (.istore_n 2, 1) := by decide +kernel
theorem dX5_couldAny_4 : decode cX5_couldAny 4 = .ok (.iload_n 2, 1) := by decide +kernel
theorem dX5_couldAny_5 : decode cX5_couldAny 5 = .ok (.bipush 16, 2) := by decide +kernel
theorem dX5_couldAny_7 : decode cX5_couldAny 7 = .ok (.if_icmp .ge 27, 3) := by decide +kernel
theorem dX5_couldAny_10 : decode cX5_couldAny 10 = .ok (.iload_n 1, 1) := by decide +kernel
theorem dX5_couldAny_11 : decode cX5_couldAny 11 = .ok (.ifCond .ne 11, 3) := by decide +kernel
theorem dX5_couldAny_14 : decode cX5_couldAny 14 = .ok (.aload_n 0, 1) := by decide +kernel
theorem dX5_couldAny_15 : decode cX5_couldAny 15 = .ok (.iload_n 2, 1) := by decide +kernel
theorem dX5_couldAny_16 : decode cX5_couldAny 16 = .ok (.invokevirtual 128, 3) := by decide +kernel
theorem dX5_couldAny_19 : decode cX5_couldAny 19 = .ok (.ifCond .eq 7, 3) := by decide +kernel
theorem dX5_couldAny_22 : decode cX5_couldAny 22 = .ok (.iconst 1, 1) := by decide +kernel
theorem dX5_couldAny_23 : decode cX5_couldAny 23 = .ok (.goto 4, 3) := by decide +kernel
theorem dX5_couldAny_26 : decode cX5_couldAny 26 = .ok (.iconst 0, 1) := by decide +kernel
theorem dX5_couldAny_27 : decode cX5_couldAny 27 = .ok (.istore_n 1, 1) := by decide +kernel
theorem dX5_couldAny_28 : decode cX5_couldAny 28 = .ok (.iinc 2 1, 3) := by decide +kernel
theorem dX5_couldAny_31 : decode cX5_couldAny 31 = .ok (.goto (-27), 3) := by decide +kernel
theorem dX5_couldAny_34 : decode cX5_couldAny 34 = .ok (.iload_n 1, 1) := by decide +kernel
theorem dX5_couldAny_35 : decode cX5_couldAny 35 = .ok (.ireturn, 1) := by decide +kernel
theorem dX5_readPiece_0 : decode cX5_readPiece 0 = .ok (.aload_n 0, 1) := by decide +kernel
theorem dX5_readPiece_1 : decode cX5_readPiece 1 = .ok (.getfield 7, 3) := by decide +kernel
theorem dX5_readPiece_4 : decode cX5_readPiece 4 = .ok (.aload_n 0, 1) := by decide +kernel
theorem dX5_readPiece_5 : decode cX5_readPiece 5 = .ok (.getfield 119, 3) := by decide +kernel
theorem dX5_readPiece_8 : decode cX5_readPiece 8 = .ok (.iaload, 1) := by decide +kernel
theorem dX5_readPiece_9 : decode cX5_readPiece 9 = .ok (.bipush 80, 2) := by decide +kernel
theorem dX5_readPiece_11 : decode cX5_readPiece 11 = .ok (.if_icmp .ne 10, 3) := by decide +kernel
theorem dX5_readPiece_14 : decode cX5_readPiece 14 = .ok (.aload_n 0, 1) := by decide +kernel
theorem dX5_readPiece_15 : decode cX5_readPiece 15 = .ok (.invokevirtual 131, 3) := by decide +kernel
theorem dX5_readPiece_18 : decode cX5_readPiece 18 = .ok (.ifCond .ne 5, 3) := by decide +kernel
theorem dX5_readPiece_21 : decode cX5_readPiece 21 = .ok (.iconst 0, 1) := by decide +kernel
theorem dX5_readPiece_22 : decode cX5_readPiece 22 = .ok (.ireturn, 1) := by decide +kernel
theorem dX5_readPiece_23 : decode cX5_readPiece 23 = .ok (.aload_n 0, 1) := by decide +kernel
theorem dX5_readPiece_24 : decode cX5_readPiece 24 = .ok (.dup, 1) := by decide +kernel
theorem dX5_readPiece_25 : decode cX5_readPiece 25 = .ok (.getfield 119, 3) := by decide +kernel
theorem dX5_readPiece_28 : decode cX5_readPiece 28 = .ok (.iconst 1, 1) := by decide +kernel
theorem dX5_readPiece_29 : decode cX5_readPiece 29 = .ok (.iadd, 1) := by decide +kernel
theorem dX5_readPiece_30 : decode cX5_readPiece 30 = .ok (.putfield 119, 3) := by decide +kernel
theorem dX5_readPiece_33 : decode cX5_readPiece 33 = .ok (.aload_n 0, 1) := by decide +kernel
theorem dX5_readPiece_34 : decode cX5_readPiece 34 = .ok (.getfield 119, 3) := by decide +kernel
theorem dX5_readPiece_37 : decode cX5_readPiece 37 = .ok (.aload_n 0, 1) := by decide +kernel
theorem dX5_readPiece_38 : decode cX5_readPiece 38 = .ok (.getfield 116, 3) := by decide +kernel
theorem dX5_readPiece_41 : decode cX5_readPiece 41 = .ok (.if_icmp .ge 18, 3) := by decide +kernel
theorem dX5_readPiece_44 : decode cX5_readPiece 44 = .ok (.aload_n 0, 1) := by decide +kernel
theorem dX5_readPiece_45 : decode cX5_readPiece 45 = .ok (.getfield 7, 3) := by decide +kernel
theorem dX5_readPiece_48 : decode cX5_readPiece 48 = .ok (.aload_n 0, 1) := by decide +kernel
theorem dX5_readPiece_49 : decode cX5_readPiece 49 = .ok (.getfield 119, 3) := by decide +kernel
theorem dX5_readPiece_52 : decode cX5_readPiece 52 = .ok (.iaload, 1) := by decide +kernel
theorem dX5_readPiece_53 : decode cX5_readPiece 53 = .ok (.bipush 97, 2) := by decide +kernel
theorem dX5_readPiece_55 : decode cX5_readPiece 55 = .ok (.isub, 1) := by decide +kernel
theorem dX5_readPiece_56 : decode cX5_readPiece 56 = .ok (.goto 5, 3) := by decide +kernel
theorem dX5_readPiece_59 : decode cX5_readPiece 59 = .ok (.bipush (-9), 2) := by decide +kernel
theorem dX5_readPiece_61 : decode cX5_readPiece 61 = .ok (.istore_n 1, 1) := by decide +kernel
theorem dX5_readPiece_62 : decode cX5_readPiece 62 = .ok (.iload_n 1, 1) := by decide +kernel
theorem dX5_readPiece_63 : decode cX5_readPiece 63 = .ok (.invokestatic 135, 3) := by decide +kernel
theorem dX5_readPiece_66 : decode cX5_readPiece 66 = .ok (.ifCond .ne 11, 3) := by decide +kernel
theorem dX5_readPiece_69 : decode cX5_readPiece 69 = .ok (.aload_n 0, 1) := by decide +kernel
theorem dX5_readPiece_70 : decode cX5_readPiece 70 = .ok (.iload_n 1, 1) := by decide +kernel
theorem dX5_readPiece_71 : decode cX5_readPiece 71 = .ok (.invokevirtual 128, 3) := by decide +kernel
theorem dX5_readPiece_74 : decode cX5_readPiece 74 = .ok (.ifCond .ne 5, 3) := by decide +kernel
theorem dX5_readPiece_77 : decode cX5_readPiece 77 = .ok (.iconst 0, 1) := by decide +kernel
theorem dX5_readPiece_78 : decode cX5_readPiece 78 = .ok (.ireturn, 1) := by decide +kernel
theorem dX5_readPiece_79 : decode cX5_readPiece 79 = .ok (.aload_n 0, 1) := by decide +kernel
theorem dX5_readPiece_80 : decode cX5_readPiece 80 = .ok (.dup, 1) := by decide +kernel
theorem dX5_readPiece_81 : decode cX5_readPiece 81 = .ok (.getfield 119, 3) := by decide +kernel
theorem dX5_readPiece_84 : decode cX5_readPiece 84 = .ok (.iconst 1, 1) := by decide +kernel
theorem dX5_readPiece_85 : decode cX5_readPiece 85 = .ok (.iadd, 1) := by decide +kernel
theorem dX5_readPiece_86 : decode cX5_readPiece 86 = .ok (.putfield 119, 3) := by decide +kernel
theorem dX5_readPiece_89 : decode cX5_readPiece 89 = .ok (.aload_n 0, 1) := by decide +kernel
theorem dX5_readPiece_90 : decode cX5_readPiece 90 = .ok (.iconst 3, 1) := by decide +kernel
theorem dX5_readPiece_91 : decode cX5_readPiece 91 = .ok (.invokevirtual 138, 3) := by decide +kernel
theorem dX5_readPiece_94 : decode cX5_readPiece 94 = .ok (.istore_n 2, 1) := by decide +kernel
theorem dX5_readPiece_95 : decode cX5_readPiece 95 = .ok (.iload_n 2, 1) := by decide +kernel
theorem dX5_readPiece_96 : decode cX5_readPiece 96 = .ok (.bipush (-9), 2) := by decide +kernel
theorem dX5_readPiece_98 : decode cX5_readPiece 98 = .ok (.if_icmp .ne 5, 3) := by decide +kernel
theorem dX5_readPiece_101 : decode cX5_readPiece 101 = .ok (.iconst 0, 1) := by decide +kernel
theorem dX5_readPiece_102 : decode cX5_readPiece 102 = .ok (.ireturn, 1) := by decide +kernel
theorem dX5_readPiece_103 : decode cX5_readPiece 103 = .ok (.aload_n 0, 1) := by decide +kernel
theorem dX5_readPiece_104 : decode cX5_readPiece 104 = .ok (.iload_n 1, 1) := by decide +kernel
theorem dX5_readPiece_105 : decode cX5_readPiece 105 = .ok (.iload_n 2, 1) := by decide +kernel
theorem dX5_readPiece_106 : decode cX5_readPiece 106 = .ok (.invokevirtual 125, 3) := by decide +kernel
theorem dX5_readPiece_109 : decode cX5_readPiece 109 = .ok (.ifCond .ne 15, 3) := by decide +kernel
theorem dX5_readPiece_112 : decode cX5_readPiece 112 = .ok (.aload_n 0, 1) := by decide +kernel
theorem dX5_readPiece_113 : decode cX5_readPiece 113 = .ok (.dup, 1) := by decide +kernel
theorem dX5_readPiece_114 : decode cX5_readPiece 114 = .ok (.getfield 119, 3) := by decide +kernel
theorem dX5_readPiece_117 : decode cX5_readPiece 117 = .ok (.iconst 1, 1) := by decide +kernel
theorem dX5_readPiece_118 : decode cX5_readPiece 118 = .ok (.isub, 1) := by decide +kernel
theorem dX5_readPiece_119 : decode cX5_readPiece 119 = .ok (.putfield 119, 3) := by decide +kernel
theorem dX5_readPiece_122 : decode cX5_readPiece 122 = .ok (.iconst 0, 1) := by decide +kernel
theorem dX5_readPiece_123 : decode cX5_readPiece 123 = .ok (.ireturn, 1) := by decide +kernel
theorem dX5_readPiece_124 : decode cX5_readPiece 124 = .ok (.aload_n 0, 1) := by decide +kernel
theorem dX5_readPiece_125 : decode cX5_readPiece 125 = .ok (.getfield 19, 3) := by decide +kernel
theorem dX5_readPiece_128 : decode cX5_readPiece 128 = .ok (.iload_n 1, 1) := by decide +kernel
theorem dX5_readPiece_129 : decode cX5_readPiece 129 = .ok (.iload_n 2, 1) := by decide +kernel
theorem dX5_readPiece_130 : decode cX5_readPiece 130 = .ok (.iconst 1, 1) := by decide +kernel
theorem dX5_readPiece_131 : decode cX5_readPiece 131 = .ok (.iadd, 1) := by decide +kernel
theorem dX5_readPiece_132 : decode cX5_readPiece 132 = .ok (.iastore, 1) := by decide +kernel
theorem dX5_readPiece_133 : decode cX5_readPiece 133 = .ok (.iconst 1, 1) := by decide +kernel
theorem dX5_readPiece_134 : decode cX5_readPiece 134 = .ok (.ireturn, 1) := by decide +kernel
theorem dX5_readHead_0 : decode cX5_readHead 0 = .ok (.iconst 0, 1) := by decide +kernel
theorem dX5_readHead_1 : decode cX5_readHead 1 = .ok (.istore_n 1, 1) := by decide +kernel
theorem dX5_readHead_2 : decode cX5_readHead 2 = .ok (.iload_n 1, 1) := by decide +kernel
theorem dX5_readHead_3 : decode cX5_readHead 3 = .ok (.iconst 4, 1) := by decide +kernel
theorem dX5_readHead_4 : decode cX5_readHead 4 = .ok (.if_icmp .ge 33, 3) := by decide +kernel
theorem dX5_readHead_7 : decode cX5_readHead 7 = .ok (.aload_n 0, 1) := by decide +kernel
theorem dX5_readHead_8 : decode cX5_readHead 8 = .ok (.bipush 9, 2) := by decide +kernel
theorem dX5_readHead_10 : decode cX5_readHead 10 = .ok (.invokevirtual 138, 3) := by decide +kernel
theorem dX5_readHead_13 : decode cX5_readHead 13 = .ok (.istore_n 2, 1) := by decide +kernel
theorem dX5_readHead_14 : decode cX5_readHead 14 = .ok (.iload_n 2, 1) := by decide +kernel
theorem dX5_readHead_15 : decode cX5_readHead 15 = .ok (.bipush (-9), 2) := by decide +kernel
theorem dX5_readHead_17 : decode cX5_readHead 17 = .ok (.if_icmp .ne 5, 3) := by decide +kernel
theorem dX5_readHead_20 : decode cX5_readHead 20 = .ok (.iconst 0, 1) := by decide +kernel
theorem dX5_readHead_21 : decode cX5_readHead 21 = .ok (.ireturn, 1) := by decide +kernel
theorem dX5_readHead_22 : decode cX5_readHead 22 = .ok (.aload_n 0, 1) := by decide +kernel
theorem dX5_readHead_23 : decode cX5_readHead 23 = .ok (.getfield 16, 3) := by decide +kernel
theorem dX5_readHead_26 : decode cX5_readHead 26 = .ok (.iload_n 1, 1) := by decide +kernel
theorem dX5_readHead_27 : decode cX5_readHead 27 = .ok (.iconst 3, 1) := by decide +kernel
theorem dX5_readHead_28 : decode cX5_readHead 28 = .ok (.iload_n 2, 1) := by decide +kernel
theorem dX5_readHead_29 : decode cX5_readHead 29 = .ok (.imul, 1) := by decide +kernel
theorem dX5_readHead_30 : decode cX5_readHead 30 = .ok (.iastore, 1) := by decide +kernel
theorem dX5_readHead_31 : decode cX5_readHead 31 = .ok (.iinc 1 1, 3) := by decide +kernel
theorem dX5_readHead_34 : decode cX5_readHead 34 = .ok (.goto (-32), 3) := by decide +kernel
theorem dX5_readHead_37 : decode cX5_readHead 37 = .ok (.iconst 1, 1) := by decide +kernel
theorem dX5_readHead_38 : decode cX5_readHead 38 = .ok (.ireturn, 1) := by decide +kernel
theorem dX5_readHouse_0 : decode cX5_readHouse 0 = .ok (.aload_n 0, 1) := by decide +kernel
theorem dX5_readHouse_1 : decode cX5_readHouse 1 = .ok (.iconst 0, 1) := by decide +kernel
theorem dX5_readHouse_2 : decode cX5_readHouse 2 = .ok (.putfield 119, 3) := by decide +kernel
theorem dX5_readHouse_5 : decode cX5_readHouse 5 = .ok (.iconst 0, 1) := by decide +kernel
theorem dX5_readHouse_6 : decode cX5_readHouse 6 = .ok (.istore_n 1, 1) := by decide +kernel
theorem dX5_readHouse_7 : decode cX5_readHouse 7 = .ok (.iload_n 1, 1) := by decide +kernel
theorem dX5_readHouse_8 : decode cX5_readHouse 8 = .ok (.bipush 17, 2) := by decide +kernel
theorem dX5_readHouse_10 : decode cX5_readHouse 10 = .ok (.if_icmp .ge 16, 3) := by decide +kernel
theorem dX5_readHouse_13 : decode cX5_readHouse 13 = .ok (.aload_n 0, 1) := by decide +kernel
theorem dX5_readHouse_14 : decode cX5_readHouse 14 = .ok (.getfield 19, 3) := by decide +kernel
theorem dX5_readHouse_17 : decode cX5_readHouse 17 = .ok (.iload_n 1, 1) := by decide +kernel
theorem dX5_readHouse_18 : decode cX5_readHouse 18 = .ok (.iconst 0, 1) := by decide +kernel
theorem dX5_readHouse_19 : decode cX5_readHouse 19 = .ok (.iastore, 1) := by decide +kernel
theorem dX5_readHouse_20 : decode cX5_readHouse 20 = .ok (.iinc 1 1, 3) := by decide +kernel
theorem dX5_readHouse_23 : decode cX5_readHouse 23 = .ok (.goto (-16), 3) := by decide +kernel
theorem dX5_readHouse_26 : decode cX5_readHouse 26 = .ok (.aload_n 0, 1) := by decide +kernel
theorem dX5_readHouse_27 : decode cX5_readHouse 27 = .ok (.getfield 116, 3) := by decide +kernel
theorem dX5_readHouse_30 : decode cX5_readHouse 30 = .ok (.ifCond .eq 14, 3) := by decide +kernel
theorem dX5_readHouse_33 : decode cX5_readHouse 33 = .ok (.aload_n 0, 1) := by decide +kernel
theorem dX5_readHouse_34 : decode cX5_readHouse 34 = .ok (.getfield 7, 3) := by decide +kernel
theorem dX5_readHouse_37 : decode cX5_readHouse 37 = .ok (.iconst 0, 1) := by decide +kernel
theorem dX5_readHouse_38 : decode cX5_readHouse 38 = .ok (.iaload, 1) := by decide +kernel
theorem dX5_readHouse_39 : decode cX5_readHouse 39 = .ok (.bipush 67, 2) := by decide +kernel
theorem dX5_readHouse_41 : decode cX5_readHouse 41 = .ok (.if_icmp .eq 5, 3) := by decide +kernel
theorem dX5_readHouse_44 : decode cX5_readHouse 44 = .ok (.iconst 0, 1) := by decide +kernel
theorem dX5_readHouse_45 : decode cX5_readHouse 45 = .ok (.ireturn, 1) := by decide +kernel
theorem dX5_readHouse_46 : decode cX5_readHouse 46 = .ok (.aload_n 0, 1) := by decide +kernel
theorem dX5_readHouse_47 : decode cX5_readHouse 47 = .ok (.iconst 1, 1) := by decide +kernel
theorem dX5_readHouse_48 : decode cX5_readHouse 48 = .ok (.putfield 119, 3) := by decide +kernel
theorem dX5_readHouse_51 : decode cX5_readHouse 51 = .ok (.aload_n 0, 1) := by decide +kernel
theorem dX5_readHouse_52 : decode cX5_readHouse 52 = .ok (.invokevirtual 141, 3) := by decide +kernel
theorem dX5_readHouse_55 : decode cX5_readHouse 55 = .ok (.ifCond .ne 8, 3) := by decide +kernel
theorem dX5_readHouse_58 : decode cX5_readHouse 58 = .ok (.aload_n 0, 1) := by decide +kernel
theorem dX5_readHouse_59 : decode cX5_readHouse 59 = .ok (.getfield 119, 3) := by decide +kernel
theorem dX5_readHouse_62 : decode cX5_readHouse 62 = .ok (.ireturn, 1) := by decide +kernel
theorem dX5_readHouse_63 : decode cX5_readHouse 63 = .ok (.aload_n 0, 1) := by decide +kernel
theorem dX5_readHouse_64 : decode cX5_readHouse 64 = .ok (.getfield 119, 3) := by decide +kernel
theorem dX5_readHouse_67 : decode cX5_readHouse 67 = .ok (.aload_n 0, 1) := by decide +kernel
theorem dX5_readHouse_68 : decode cX5_readHouse 68 = .ok (.getfield 116, 3) := by decide +kernel
theorem dX5_readHouse_71 : decode cX5_readHouse 71 = .ok (.if_icmp .ge 15, 3) := by decide +kernel
theorem dX5_readHouse_74 : decode cX5_readHouse 74 = .ok (.aload_n 0, 1) := by decide +kernel
theorem dX5_readHouse_75 : decode cX5_readHouse 75 = .ok (.invokevirtual 144, 3) := by decide +kernel
theorem dX5_readHouse_78 : decode cX5_readHouse 78 = .ok (.ifCond .ne (-15), 3) := by decide +kernel
theorem dX5_readHouse_81 : decode cX5_readHouse 81 = .ok (.aload_n 0, 1) := by decide +kernel
theorem dX5_readHouse_82 : decode cX5_readHouse 82 = .ok (.getfield 119, 3) := by decide +kernel
theorem dX5_readHouse_85 : decode cX5_readHouse 85 = .ok (.ireturn, 1) := by decide +kernel
theorem dX5_readHouse_86 : decode cX5_readHouse 86 = .ok (.bipush (-9), 2) := by decide +kernel
theorem dX5_readHouse_88 : decode cX5_readHouse 88 = .ok (.ireturn, 1) := by decide +kernel
theorem dX5_fault_0 : decode cX5_fault 0 = .ok (.aload_n 0, 1) := by decide +kernel
theorem dX5_fault_1 : decode cX5_fault 1 = .ok (.iconst 0, 1) := by decide +kernel
theorem dX5_fault_2 : decode cX5_fault 2 = .ok (.putfield 59, 3) := by decide +kernel
theorem dX5_fault_5 : decode cX5_fault 5 = .ok (.aload_n 0, 1) := by decide +kernel
theorem dX5_fault_6 : decode cX5_fault 6 = .ok (.invokevirtual 147, 3) := by decide +kernel
theorem dX5_fault_9 : decode cX5_fault 9 = .ok (.ireturn, 1) := by decide +kernel
theorem dX5_house_0 : decode cX5_house 0 = .ok (.aload_n 0, 1) := by decide +kernel
theorem dX5_house_1 : decode cX5_house 1 = .ok (.iconst 0, 1) := by decide +kernel
theorem dX5_house_2 : decode cX5_house 2 = .ok (.putfield 59, 3) := by decide +kernel
theorem dX5_house_5 : decode cX5_house 5 = .ok (.aload_n 0, 1) := by decide +kernel
theorem dX5_house_6 : decode cX5_house 6 = .ok (.invokevirtual 147, 3) := by decide +kernel
theorem dX5_house_9 : decode cX5_house 9 = .ok (.bipush (-9), 2) := by decide +kernel
theorem dX5_house_11 : decode cX5_house 11 = .ok (.if_icmp .eq 6, 3) := by decide +kernel
theorem dX5_house_14 : decode cX5_house 14 = .ok (.bipush (-3), 2) := by decide +kernel
theorem dX5_house_16 : decode cX5_house 16 = .ok (.ireturn, 1) := by decide +kernel
theorem dX5_house_17 : decode cX5_house 17 = .ok (.iconst 0, 1) := by decide +kernel
theorem dX5_house_18 : decode cX5_house 18 = .ok (.istore_n 1, 1) := by decide +kernel
theorem dX5_house_19 : decode cX5_house 19 = .ok (.iload_n 1, 1) := by decide +kernel
theorem dX5_house_20 : decode cX5_house 20 = .ok (.iconst 4, 1) := by decide +kernel
theorem dX5_house_21 : decode cX5_house 21 = .ok (.if_icmp .ge 21, 3) := by decide +kernel
theorem dX5_house_24 : decode cX5_house 24 = .ok (.aload_n 0, 1) := by decide +kernel
theorem dX5_house_25 : decode cX5_house 25 = .ok (.getfield 13, 3) := by decide +kernel
theorem dX5_house_28 : decode cX5_house 28 = .ok (.iload_n 1, 1) := by decide +kernel
theorem dX5_house_29 : decode cX5_house 29 = .ok (.aload_n 0, 1) := by decide +kernel
theorem dX5_house_30 : decode cX5_house 30 = .ok (.getfield 16, 3) := by decide +kernel
theorem dX5_house_33 : decode cX5_house 33 = .ok (.iload_n 1, 1) := by decide +kernel
theorem dX5_house_34 : decode cX5_house 34 = .ok (.iaload, 1) := by decide +kernel
theorem dX5_house_35 : decode cX5_house 35 = .ok (.iastore, 1) := by decide +kernel
theorem dX5_house_36 : decode cX5_house 36 = .ok (.iinc 1 1, 3) := by decide +kernel
theorem dX5_house_39 : decode cX5_house 39 = .ok (.goto (-20), 3) := by decide +kernel
theorem dX5_house_42 : decode cX5_house 42 = .ok (.iconst 0, 1) := by decide +kernel
theorem dX5_house_43 : decode cX5_house 43 = .ok (.istore_n 1, 1) := by decide +kernel
theorem dX5_house_44 : decode cX5_house 44 = .ok (.iload_n 1, 1) := by decide +kernel
theorem dX5_house_45 : decode cX5_house 45 = .ok (.bipush 17, 2) := by decide +kernel
theorem dX5_house_47 : decode cX5_house 47 = .ok (.if_icmp .ge 21, 3) := by decide +kernel
theorem dX5_house_50 : decode cX5_house 50 = .ok (.aload_n 0, 1) := by decide +kernel
theorem dX5_house_51 : decode cX5_house 51 = .ok (.getfield 22, 3) := by decide +kernel
theorem dX5_house_54 : decode cX5_house 54 = .ok (.iload_n 1, 1) := by decide +kernel
theorem dX5_house_55 : decode cX5_house 55 = .ok (.aload_n 0, 1) := by decide +kernel
theorem dX5_house_56 : decode cX5_house 56 = .ok (.getfield 19, 3) := by decide +kernel
theorem dX5_house_59 : decode cX5_house 59 = .ok (.iload_n 1, 1) := by decide +kernel
theorem dX5_house_60 : decode cX5_house 60 = .ok (.iaload, 1) := by decide +kernel
theorem dX5_house_61 : decode cX5_house 61 = .ok (.iastore, 1) := by decide +kernel
theorem dX5_house_62 : decode cX5_house 62 = .ok (.iinc 1 1, 3) := by decide +kernel
theorem dX5_house_65 : decode cX5_house 65 = .ok (.goto (-21), 3) := by decide +kernel
theorem dX5_house_68 : decode cX5_house 68 = .ok (.aload_n 0, 1) := by decide +kernel
theorem dX5_house_69 : decode cX5_house 69 = .ok (.aload_n 0, 1) := by decide +kernel
theorem dX5_house_70 : decode cX5_house 70 = .ok (.getfield 22, 3) := by decide +kernel
theorem dX5_house_73 : decode cX5_house 73 = .ok (.invokevirtual 151, 3) := by decide +kernel
theorem dX5_house_76 : decode cX5_house 76 = .ok (.pop, 1) := by decide +kernel
theorem dX5_house_77 : decode cX5_house 77 = .ok (.aload_n 0, 1) := by decide +kernel
theorem dX5_house_78 : decode cX5_house 78 = .ok (.iconst 0, 1) := by decide +kernel
theorem dX5_house_79 : decode cX5_house 79 = .ok (.putfield 154, 3) := by decide +kernel
theorem dX5_house_82 : decode cX5_house 82 = .ok (.aload_n 0, 1) := by decide +kernel
theorem dX5_house_83 : decode cX5_house 83 = .ok (.getfield 37, 3) := by decide +kernel
theorem dX5_house_86 : decode cX5_house 86 = .ok (.iconst 0, 1) := by decide +kernel
theorem dX5_house_87 : decode cX5_house 87 = .ok (.iconst 0, 1) := by decide +kernel
theorem dX5_house_88 : decode cX5_house 88 = .ok (.bastore, 1) := by decide +kernel
theorem dX5_house_89 : decode cX5_house 89 = .ok (.aload_n 0, 1) := by decide +kernel
theorem dX5_house_90 : decode cX5_house 90 = .ok (.getfield 37, 3) := by decide +kernel
theorem dX5_house_93 : decode cX5_house 93 = .ok (.iconst 1, 1) := by decide +kernel
theorem dX5_house_94 : decode cX5_house 94 = .ok (.iconst 0, 1) := by decide +kernel
theorem dX5_house_95 : decode cX5_house 95 = .ok (.bastore, 1) := by decide +kernel
theorem dX5_house_96 : decode cX5_house 96 = .ok (.aload_n 0, 1) := by decide +kernel
theorem dX5_house_97 : decode cX5_house 97 = .ok (.getfield 22, 3) := by decide +kernel
theorem dX5_house_100 : decode cX5_house 100 = .ok (.invokestatic 122, 3) := by decide +kernel
theorem dX5_house_103 : decode cX5_house 103 = .ok (.invokestatic 97, 3) := by decide +kernel
theorem dX5_house_106 : decode cX5_house 106 = .ok (.ireturn, 1) := by decide +kernel
theorem dX5_deckAll_0 : decode cX5_deckAll 0 = .ok (.aload_n 0, 1) := by decide +kernel
theorem dX5_deckAll_1 : decode cX5_deckAll 1 = .ok (.aload_n 0, 1) := by decide +kernel
theorem dX5_deckAll_2 : decode cX5_deckAll 2 = .ok (.getfield 22, 3) := by decide +kernel
theorem dX5_deckAll_5 : decode cX5_deckAll 5 = .ok (.iconst 0, 1) := by decide +kernel
theorem dX5_deckAll_6 : decode cX5_deckAll 6 = .ok (.invokevirtual 157, 3) := by decide +kernel
theorem dX5_deckAll_9 : decode cX5_deckAll 9 = .ok (.aload_n 0, 1) := by decide +kernel
theorem dX5_deckAll_10 : decode cX5_deckAll 10 = .ok (.aload_n 0, 1) := by decide +kernel
theorem dX5_deckAll_11 : decode cX5_deckAll 11 = .ok (.getfield 22, 3) := by decide +kernel
theorem dX5_deckAll_14 : decode cX5_deckAll 14 = .ok (.iconst 1, 1) := by decide +kernel
theorem dX5_deckAll_15 : decode cX5_deckAll 15 = .ok (.invokevirtual 157, 3) := by decide +kernel
theorem dX5_deckAll_18 : decode cX5_deckAll 18 = .ok (.iadd, 1) := by decide +kernel
theorem dX5_deckAll_19 : decode cX5_deckAll 19 = .ok (.aload_n 0, 1) := by decide +kernel
theorem dX5_deckAll_20 : decode cX5_deckAll 20 = .ok (.aload_n 0, 1) := by decide +kernel
theorem dX5_deckAll_21 : decode cX5_deckAll 21 = .ok (.getfield 22, 3) := by decide +kernel
theorem dX5_deckAll_24 : decode cX5_deckAll 24 = .ok (.iconst 2, 1) := by decide +kernel
theorem dX5_deckAll_25 : decode cX5_deckAll 25 = .ok (.invokevirtual 157, 3) := by decide +kernel
theorem dX5_deckAll_28 : decode cX5_deckAll 28 = .ok (.iadd, 1) := by decide +kernel
theorem dX5_deckAll_29 : decode cX5_deckAll 29 = .ok (.aload_n 0, 1) := by decide +kernel
theorem dX5_deckAll_30 : decode cX5_deckAll 30 = .ok (.aload_n 0, 1) := by decide +kernel
theorem dX5_deckAll_31 : decode cX5_deckAll 31 = .ok (.getfield 22, 3) := by decide +kernel
theorem dX5_deckAll_34 : decode cX5_deckAll 34 = .ok (.iconst 3, 1) := by decide +kernel
theorem dX5_deckAll_35 : decode cX5_deckAll 35 = .ok (.invokevirtual 157, 3) := by decide +kernel
theorem dX5_deckAll_38 : decode cX5_deckAll 38 = .ok (.iadd, 1) := by decide +kernel
theorem dX5_deckAll_39 : decode cX5_deckAll 39 = .ok (.ireturn, 1) := by decide +kernel
theorem dX5_highest_0 : decode cX5_highest 0 = .ok (.bipush (-9), 2) := by decide +kernel
theorem dX5_highest_2 : decode cX5_highest 2 = .ok (.istore_n 1, 1) := by decide +kernel
theorem dX5_highest_3 : decode cX5_highest 3 = .ok (.iconst 0, 1) := by decide +kernel
theorem dX5_highest_4 : decode cX5_highest 4 = .ok (.istore_n 2, 1) := by decide +kernel
theorem dX5_highest_5 : decode cX5_highest 5 = .ok (.iload_n 2, 1) := by decide +kernel
theorem dX5_highest_6 : decode cX5_highest 6 = .ok (.bipush 16, 2) := by decide +kernel
theorem dX5_highest_8 : decode cX5_highest 8 = .ok (.if_icmp .ge 27, 3) := by decide +kernel
theorem dX5_highest_11 : decode cX5_highest 11 = .ok (.aload_n 0, 1) := by decide +kernel
theorem dX5_highest_12 : decode cX5_highest 12 = .ok (.getfield 22, 3) := by decide +kernel
theorem dX5_highest_15 : decode cX5_highest 15 = .ok (.iload_n 2, 1) := by decide +kernel
theorem dX5_highest_16 : decode cX5_highest 16 = .ok (.iaload, 1) := by decide +kernel
theorem dX5_highest_17 : decode cX5_highest 17 = .ok (.ifCond .le 10, 3) := by decide +kernel
theorem dX5_highest_20 : decode cX5_highest 20 = .ok (.iload_n 2, 1) := by decide +kernel
theorem dX5_highest_21 : decode cX5_highest 21 = .ok (.invokestatic 160, 3) := by decide +kernel
theorem dX5_highest_24 : decode cX5_highest 24 = .ok (.goto 4, 3) := by decide +kernel
theorem dX5_highest_27 : decode cX5_highest 27 = .ok (.iload_n 1, 1) := by decide +kernel
theorem dX5_highest_28 : decode cX5_highest 28 = .ok (.istore_n 1, 1) := by decide +kernel
theorem dX5_highest_29 : decode cX5_highest 29 = .ok (.iinc 2 1, 3) := by decide +kernel
theorem dX5_highest_32 : decode cX5_highest 32 = .ok (.goto (-27), 3) := by decide +kernel
theorem dX5_highest_35 : decode cX5_highest 35 = .ok (.iload_n 1, 1) := by decide +kernel
theorem dX5_highest_36 : decode cX5_highest 36 = .ok (.ireturn, 1) := by decide +kernel
theorem dX5_about_0 : decode cX5_about 0 = .ok (.aload_n 0, 1) := by decide +kernel
theorem dX5_about_1 : decode cX5_about 1 = .ok (.iconst 0, 1) := by decide +kernel
theorem dX5_about_2 : decode cX5_about 2 = .ok (.putfield 59, 3) := by decide +kernel
theorem dX5_about_5 : decode cX5_about 5 = .ok (.iload_n 1, 1) := by decide +kernel
theorem dX5_about_6 : decode cX5_about 6 = .ok (.tableswitch 98 0 7 #[46, 57, 65, 70, 78, 83, 88, 93], 46) := by decide +kernel
theorem dX5_about_52 : decode cX5_about 52 = .ok (.aload_n 0, 1) := by decide +kernel
theorem dX5_about_53 : decode cX5_about 53 = .ok (.getfield 22, 3) := by decide +kernel
theorem dX5_about_56 : decode cX5_about 56 = .ok (.invokestatic 122, 3) := by decide +kernel
theorem dX5_about_59 : decode cX5_about 59 = .ok (.invokestatic 97, 3) := by decide +kernel
theorem dX5_about_62 : decode cX5_about 62 = .ok (.ireturn, 1) := by decide +kernel
theorem dX5_about_63 : decode cX5_about 63 = .ok (.aload_n 0, 1) := by decide +kernel
theorem dX5_about_64 : decode cX5_about 64 = .ok (.getfield 22, 3) := by decide +kernel
theorem dX5_about_67 : decode cX5_about 67 = .ok (.invokestatic 122, 3) := by decide +kernel
theorem dX5_about_70 : decode cX5_about 70 = .ok (.ireturn, 1) := by decide +kernel
theorem dX5_about_71 : decode cX5_about 71 = .ok (.aload_n 0, 1) := by decide +kernel
theorem dX5_about_72 : decode cX5_about 72 = .ok (.invokevirtual 163, 3) := by decide +kernel
theorem dX5_about_75 : decode cX5_about 75 = .ok (.ireturn, 1) := by decide +kernel
theorem dX5_about_76 : decode cX5_about 76 = .ok (.aload_n 0, 1) := by decide +kernel
theorem dX5_about_77 : decode cX5_about 77 = .ok (.getfield 22, 3) := by decide +kernel
theorem dX5_about_80 : decode cX5_about 80 = .ok (.bipush 16, 2) := by decide +kernel
theorem dX5_about_82 : decode cX5_about 82 = .ok (.iaload, 1) := by decide +kernel
theorem dX5_about_83 : decode cX5_about 83 = .ok (.ireturn, 1) := by decide +kernel
theorem dX5_about_84 : decode cX5_about 84 = .ok (.aload_n 0, 1) := by decide +kernel
theorem dX5_about_85 : decode cX5_about 85 = .ok (.invokevirtual 166, 3) := by decide +kernel
theorem dX5_about_88 : decode cX5_about 88 = .ok (.ireturn, 1) := by decide +kernel
theorem dX5_about_89 : decode cX5_about 89 = .ok (.aload_n 0, 1) := by decide +kernel
theorem dX5_about_90 : decode cX5_about 90 = .ok (.getfield 154, 3) := by decide +kernel
theorem dX5_about_93 : decode cX5_about 93 = .ok (.ireturn, 1) := by decide +kernel
theorem dX5_about_94 : decode cX5_about 94 = .ok (.aload_n 0, 1) := by decide +kernel
theorem dX5_about_95 : decode cX5_about 95 = .ok (.getfield 169, 3) := by decide +kernel
theorem dX5_about_98 : decode cX5_about 98 = .ok (.ireturn, 1) := by decide +kernel
theorem dX5_about_99 : decode cX5_about 99 = .ok (.aload_n 0, 1) := by decide +kernel
theorem dX5_about_100 : decode cX5_about 100 = .ok (.getfield 116, 3) := by decide +kernel
theorem dX5_about_103 : decode cX5_about 103 = .ok (.ireturn, 1) := by decide +kernel
theorem dX5_about_104 : decode cX5_about 104 = .ok (.bipush (-2), 2) := by decide +kernel
theorem dX5_about_106 : decode cX5_about 106 = .ok (.ireturn, 1) := by decide +kernel
theorem dX5_deck_0 : decode cX5_deck 0 = .ok (.aload_n 0, 1) := by decide +kernel
theorem dX5_deck_1 : decode cX5_deck 1 = .ok (.iconst 0, 1) := by decide +kernel
theorem dX5_deck_2 : decode cX5_deck 2 = .ok (.putfield 59, 3) := by decide +kernel
theorem dX5_deck_5 : decode cX5_deck 5 = .ok (.iload_n 1, 1) := by decide +kernel
theorem dX5_deck_6 : decode cX5_deck 6 = .ok (.invokestatic 172, 3) := by decide +kernel
theorem dX5_deck_9 : decode cX5_deck 9 = .ok (.ifCond .eq 7, 3) := by decide +kernel
theorem dX5_deck_12 : decode cX5_deck 12 = .ok (.iconst (-1), 1) := by decide +kernel
theorem dX5_deck_13 : decode cX5_deck 13 = .ok (.goto 12, 3) := by decide +kernel
theorem dX5_deck_16 : decode cX5_deck 16 = .ok (.aload_n 0, 1) := by decide +kernel
theorem dX5_deck_17 : decode cX5_deck 17 = .ok (.aload_n 0, 1) := by decide +kernel
theorem dX5_deck_18 : decode cX5_deck 18 = .ok (.getfield 22, 3) := by decide +kernel
theorem dX5_deck_21 : decode cX5_deck 21 = .ok (.iload_n 1, 1) := by decide +kernel
theorem dX5_deck_22 : decode cX5_deck 22 = .ok (.invokevirtual 157, 3) := by decide +kernel
theorem dX5_deck_25 : decode cX5_deck 25 = .ok (.ireturn, 1) := by decide +kernel
theorem dX5_isTop_0 : decode cX5_isTop 0 = .ok (.aload_n 0, 1) := by decide +kernel
theorem dX5_isTop_1 : decode cX5_isTop 1 = .ok (.iconst 1, 1) := by decide +kernel
theorem dX5_isTop_2 : decode cX5_isTop 2 = .ok (.iload_n 1, 1) := by decide +kernel
theorem dX5_isTop_3 : decode cX5_isTop 3 = .ok (.ishl, 1) := by decide +kernel
theorem dX5_isTop_4 : decode cX5_isTop 4 = .ok (.invokestatic 94, 3) := by decide +kernel
theorem dX5_isTop_7 : decode cX5_isTop 7 = .ok (.iconst 1, 1) := by decide +kernel
theorem dX5_isTop_8 : decode cX5_isTop 8 = .ok (.iload_n 1, 1) := by decide +kernel
theorem dX5_isTop_9 : decode cX5_isTop 9 = .ok (.ishl, 1) := by decide +kernel
theorem dX5_isTop_10 : decode cX5_isTop 10 = .ok (.if_icmp .ne 7, 3) := by decide +kernel
theorem dX5_isTop_13 : decode cX5_isTop 13 = .ok (.iconst 1, 1) := by decide +kernel
theorem dX5_isTop_14 : decode cX5_isTop 14 = .ok (.goto 4, 3) := by decide +kernel
theorem dX5_isTop_17 : decode cX5_isTop 17 = .ok (.iconst 0, 1) := by decide +kernel
theorem dX5_isTop_18 : decode cX5_isTop 18 = .ok (.ireturn, 1) := by decide +kernel
theorem dX5_piece_0 : decode cX5_piece 0 = .ok (.aload_n 0, 1) := by decide +kernel
theorem dX5_piece_1 : decode cX5_piece 1 = .ok (.iconst 0, 1) := by decide +kernel
theorem dX5_piece_2 : decode cX5_piece 2 = .ok (.putfield 59, 3) := by decide +kernel
theorem dX5_piece_5 : decode cX5_piece 5 = .ok (.iload_n 1, 1) := by decide +kernel
theorem dX5_piece_6 : decode cX5_piece 6 = .ok (.invokestatic 135, 3) := by decide +kernel
theorem dX5_piece_9 : decode cX5_piece 9 = .ok (.ifCond .eq 5, 3) := by decide +kernel
theorem dX5_piece_12 : decode cX5_piece 12 = .ok (.iconst (-1), 1) := by decide +kernel
theorem dX5_piece_13 : decode cX5_piece 13 = .ok (.ireturn, 1) := by decide +kernel
theorem dX5_piece_14 : decode cX5_piece 14 = .ok (.iload_n 2, 1) := by decide +kernel
theorem dX5_piece_15 : decode cX5_piece 15 = .ok (.i2l, 1) := by decide +kernel
theorem dX5_piece_16 : decode cX5_piece 16 = .ok (.lconst 0, 1) := by decide +kernel
theorem dX5_piece_17 : decode cX5_piece 17 = .ok (.ldc2_w 175, 3) := by decide +kernel
theorem dX5_piece_20 : decode cX5_piece 20 = .ok (.invokestatic 65, 3) := by decide +kernel
theorem dX5_piece_23 : decode cX5_piece 23 = .ok (.ifCond .ne 6, 3) := by decide +kernel
theorem dX5_piece_26 : decode cX5_piece 26 = .ok (.bipush (-2), 2) := by decide +kernel
theorem dX5_piece_28 : decode cX5_piece 28 = .ok (.ireturn, 1) := by decide +kernel
theorem dX5_piece_29 : decode cX5_piece 29 = .ok (.aload_n 0, 1) := by decide +kernel
theorem dX5_piece_30 : decode cX5_piece 30 = .ok (.getfield 22, 3) := by decide +kernel
theorem dX5_piece_33 : decode cX5_piece 33 = .ok (.iload_n 1, 1) := by decide +kernel
theorem dX5_piece_34 : decode cX5_piece 34 = .ok (.iaload, 1) := by decide +kernel
theorem dX5_piece_35 : decode cX5_piece 35 = .ok (.ifCond .ne 15, 3) := by decide +kernel
theorem dX5_piece_38 : decode cX5_piece 38 = .ok (.iload_n 2, 1) := by decide +kernel
theorem dX5_piece_39 : decode cX5_piece 39 = .ok (.ifCond .ne 8, 3) := by decide +kernel
theorem dX5_piece_42 : decode cX5_piece 42 = .ok (.bipush (-9), 2) := by decide +kernel
theorem dX5_piece_44 : decode cX5_piece 44 = .ok (.goto 5, 3) := by decide +kernel
theorem dX5_piece_47 : decode cX5_piece 47 = .ok (.bipush (-3), 2) := by decide +kernel
theorem dX5_piece_49 : decode cX5_piece 49 = .ok (.ireturn, 1) := by decide +kernel
theorem dX5_piece_50 : decode cX5_piece 50 = .ok (.aload_n 0, 1) := by decide +kernel
theorem dX5_piece_51 : decode cX5_piece 51 = .ok (.aload_n 0, 1) := by decide +kernel
theorem dX5_piece_52 : decode cX5_piece 52 = .ok (.getfield 22, 3) := by decide +kernel
theorem dX5_piece_55 : decode cX5_piece 55 = .ok (.invokevirtual 100, 3) := by decide +kernel
theorem dX5_piece_58 : decode cX5_piece 58 = .ok (.iload_n 2, 1) := by decide +kernel
theorem dX5_piece_59 : decode cX5_piece 59 = .ok (.tableswitch 70 0 3 #[29, 38, 51, 58], 29) := by decide +kernel
theorem dX5_piece_88 : decode cX5_piece 88 = .ok (.aload_n 0, 1) := by decide +kernel
theorem dX5_piece_89 : decode cX5_piece 89 = .ok (.getfield 22, 3) := by decide +kernel
theorem dX5_piece_92 : decode cX5_piece 92 = .ok (.iload_n 1, 1) := by decide +kernel
theorem dX5_piece_93 : decode cX5_piece 93 = .ok (.iaload, 1) := by decide +kernel
theorem dX5_piece_94 : decode cX5_piece 94 = .ok (.iconst 1, 1) := by decide +kernel
theorem dX5_piece_95 : decode cX5_piece 95 = .ok (.isub, 1) := by decide +kernel
theorem dX5_piece_96 : decode cX5_piece 96 = .ok (.ireturn, 1) := by decide +kernel
theorem dX5_piece_97 : decode cX5_piece 97 = .ok (.iload_n 1, 1) := by decide +kernel
theorem dX5_piece_98 : decode cX5_piece 98 = .ok (.aload_n 0, 1) := by decide +kernel
theorem dX5_piece_99 : decode cX5_piece 99 = .ok (.getfield 22, 3) := by decide +kernel
theorem dX5_piece_102 : decode cX5_piece 102 = .ok (.iload_n 1, 1) := by decide +kernel
theorem dX5_piece_103 : decode cX5_piece 103 = .ok (.iaload, 1) := by decide +kernel
theorem dX5_piece_104 : decode cX5_piece 104 = .ok (.iconst 1, 1) := by decide +kernel
theorem dX5_piece_105 : decode cX5_piece 105 = .ok (.isub, 1) := by decide +kernel
theorem dX5_piece_106 : decode cX5_piece 106 = .ok (.invokestatic 83, 3) := by decide +kernel
theorem dX5_piece_109 : decode cX5_piece 109 = .ok (.ireturn, 1) := by decide +kernel
theorem dX5_piece_110 : decode cX5_piece 110 = .ok (.aload_n 0, 1) := by decide +kernel
theorem dX5_piece_111 : decode cX5_piece 111 = .ok (.getfield 28, 3) := by decide +kernel
theorem dX5_piece_114 : decode cX5_piece 114 = .ok (.iload_n 1, 1) := by decide +kernel
theorem dX5_piece_115 : decode cX5_piece 115 = .ok (.iaload, 1) := by decide +kernel
theorem dX5_piece_116 : decode cX5_piece 116 = .ok (.ireturn, 1) := by decide +kernel
theorem dX5_piece_117 : decode cX5_piece 117 = .ok (.aload_n 0, 1) := by decide +kernel
theorem dX5_piece_118 : decode cX5_piece 118 = .ok (.getfield 22, 3) := by decide +kernel
theorem dX5_piece_121 : decode cX5_piece 121 = .ok (.iload_n 1, 1) := by decide +kernel
theorem dX5_piece_122 : decode cX5_piece 122 = .ok (.iaload, 1) := by decide +kernel
theorem dX5_piece_123 : decode cX5_piece 123 = .ok (.iconst 1, 1) := by decide +kernel
theorem dX5_piece_124 : decode cX5_piece 124 = .ok (.isub, 1) := by decide +kernel
theorem dX5_piece_125 : decode cX5_piece 125 = .ok (.invokestatic 104, 3) := by decide +kernel
theorem dX5_piece_128 : decode cX5_piece 128 = .ok (.ireturn, 1) := by decide +kernel
theorem dX5_piece_129 : decode cX5_piece 129 = .ok (.aload_n 0, 1) := by decide +kernel
theorem dX5_piece_130 : decode cX5_piece 130 = .ok (.getfield 22, 3) := by decide +kernel
theorem dX5_piece_133 : decode cX5_piece 133 = .ok (.iload_n 1, 1) := by decide +kernel
theorem dX5_piece_134 : decode cX5_piece 134 = .ok (.invokestatic 177, 3) := by decide +kernel
theorem dX5_piece_137 : decode cX5_piece 137 = .ok (.ifCond .eq 7, 3) := by decide +kernel
theorem dX5_piece_140 : decode cX5_piece 140 = .ok (.iconst 1, 1) := by decide +kernel
theorem dX5_piece_141 : decode cX5_piece 141 = .ok (.goto 4, 3) := by decide +kernel
theorem dX5_piece_144 : decode cX5_piece 144 = .ok (.iconst 0, 1) := by decide +kernel
theorem dX5_piece_145 : decode cX5_piece 145 = .ok (.ireturn, 1) := by decide +kernel
theorem dX5_note_0 : decode cX5_note 0 = .ok (.aload_n 0, 1) := by decide +kernel
theorem dX5_note_1 : decode cX5_note 1 = .ok (.getfield 154, 3) := by decide +kernel
theorem dX5_note_4 : decode cX5_note 4 = .ok (.bipush 14, 2) := by decide +kernel
theorem dX5_note_6 : decode cX5_note 6 = .ok (.if_icmp .ne 43, 3) := by decide +kernel
theorem dX5_note_9 : decode cX5_note 9 = .ok (.iconst 0, 1) := by decide +kernel
theorem dX5_note_10 : decode cX5_note 10 = .ok (.istore_n 1, 1) := by decide +kernel
theorem dX5_note_11 : decode cX5_note 11 = .ok (.iload_n 1, 1) := by decide +kernel
theorem dX5_note_12 : decode cX5_note 12 = .ok (.sipush 221, 3) := by decide +kernel
theorem dX5_note_15 : decode cX5_note 15 = .ok (.if_icmp .ge 24, 3) := by decide +kernel
theorem dX5_note_18 : decode cX5_note 18 = .ok (.aload_n 0, 1) := by decide +kernel
theorem dX5_note_19 : decode cX5_note 19 = .ok (.getfield 31, 3) := by decide +kernel
theorem dX5_note_22 : decode cX5_note 22 = .ok (.iload_n 1, 1) := by decide +kernel
theorem dX5_note_23 : decode cX5_note 23 = .ok (.aload_n 0, 1) := by decide +kernel
theorem dX5_note_24 : decode cX5_note 24 = .ok (.getfield 31, 3) := by decide +kernel
theorem dX5_note_27 : decode cX5_note 27 = .ok (.iload_n 1, 1) := by decide +kernel
theorem dX5_note_28 : decode cX5_note 28 = .ok (.bipush 17, 2) := by decide +kernel
theorem dX5_note_30 : decode cX5_note 30 = .ok (.iadd, 1) := by decide +kernel
theorem dX5_note_31 : decode cX5_note 31 = .ok (.iaload, 1) := by decide +kernel
theorem dX5_note_32 : decode cX5_note 32 = .ok (.iastore, 1) := by decide +kernel
theorem dX5_note_33 : decode cX5_note 33 = .ok (.iinc 1 1, 3) := by decide +kernel
theorem dX5_note_36 : decode cX5_note 36 = .ok (.goto (-25), 3) := by decide +kernel
theorem dX5_note_39 : decode cX5_note 39 = .ok (.aload_n 0, 1) := by decide +kernel
theorem dX5_note_40 : decode cX5_note 40 = .ok (.dup, 1) := by decide +kernel
theorem dX5_note_41 : decode cX5_note 41 = .ok (.getfield 154, 3) := by decide +kernel
theorem dX5_note_44 : decode cX5_note 44 = .ok (.iconst 1, 1) := by decide +kernel
theorem dX5_note_45 : decode cX5_note 45 = .ok (.isub, 1) := by decide +kernel
theorem dX5_note_46 : decode cX5_note 46 = .ok (.putfield 154, 3) := by decide +kernel
theorem dX5_note_49 : decode cX5_note 49 = .ok (.iconst 0, 1) := by decide +kernel
theorem dX5_note_50 : decode cX5_note 50 = .ok (.istore_n 1, 1) := by decide +kernel
theorem dX5_note_51 : decode cX5_note 51 = .ok (.iload_n 1, 1) := by decide +kernel
theorem dX5_note_52 : decode cX5_note 52 = .ok (.bipush 17, 2) := by decide +kernel
theorem dX5_note_54 : decode cX5_note 54 = .ok (.if_icmp .ge 29, 3) := by decide +kernel
theorem dX5_note_57 : decode cX5_note 57 = .ok (.aload_n 0, 1) := by decide +kernel
theorem dX5_note_58 : decode cX5_note 58 = .ok (.getfield 31, 3) := by decide +kernel
theorem dX5_note_61 : decode cX5_note 61 = .ok (.bipush 17, 2) := by decide +kernel
theorem dX5_note_63 : decode cX5_note 63 = .ok (.aload_n 0, 1) := by decide +kernel
theorem dX5_note_64 : decode cX5_note 64 = .ok (.getfield 154, 3) := by decide +kernel
theorem dX5_note_67 : decode cX5_note 67 = .ok (.imul, 1) := by decide +kernel
theorem dX5_note_68 : decode cX5_note 68 = .ok (.iload_n 1, 1) := by decide +kernel
theorem dX5_note_69 : decode cX5_note 69 = .ok (.iadd, 1) := by decide +kernel
theorem dX5_note_70 : decode cX5_note 70 = .ok (.aload_n 0, 1) := by decide +kernel
theorem dX5_note_71 : decode cX5_note 71 = .ok (.getfield 22, 3) := by decide +kernel
theorem dX5_note_74 : decode cX5_note 74 = .ok (.iload_n 1, 1) := by decide +kernel
theorem dX5_note_75 : decode cX5_note 75 = .ok (.iaload, 1) := by decide +kernel
theorem dX5_note_76 : decode cX5_note 76 = .ok (.iastore, 1) := by decide +kernel
theorem dX5_note_77 : decode cX5_note 77 = .ok (.iinc 1 1, 3) := by decide +kernel
theorem dX5_note_80 : decode cX5_note 80 = .ok (.goto (-29), 3) := by decide +kernel
theorem dX5_note_83 : decode cX5_note 83 = .ok (.aload_n 0, 1) := by decide +kernel
theorem dX5_note_84 : decode cX5_note 84 = .ok (.dup, 1) := by decide +kernel
theorem dX5_note_85 : decode cX5_note 85 = .ok (.getfield 154, 3) := by decide +kernel
theorem dX5_note_88 : decode cX5_note 88 = .ok (.iconst 1, 1) := by decide +kernel
theorem dX5_note_89 : decode cX5_note 89 = .ok (.iadd, 1) := by decide +kernel
theorem dX5_note_90 : decode cX5_note 90 = .ok (.putfield 154, 3) := by decide +kernel
theorem dX5_note_93 : decode cX5_note 93 = .ok (.return_, 1) := by decide +kernel
theorem dX5_canPut_0 : decode cX5_canPut 0 = .ok (.aload_n 1, 1) := by decide +kernel
theorem dX5_canPut_1 : decode cX5_canPut 1 = .ok (.iload_n 2, 1) := by decide +kernel
theorem dX5_canPut_2 : decode cX5_canPut 2 = .ok (.iaload, 1) := by decide +kernel
theorem dX5_canPut_3 : decode cX5_canPut 3 = .ok (.ifCond .ne 34, 3) := by decide +kernel
theorem dX5_canPut_6 : decode cX5_canPut 6 = .ok (.iload_n 2, 1) := by decide +kernel
theorem dX5_canPut_7 : decode cX5_canPut 7 = .ok (.invokestatic 87, 3) := by decide +kernel
theorem dX5_canPut_10 : decode cX5_canPut 10 = .ok (.aload_n 1, 1) := by decide +kernel
theorem dX5_canPut_11 : decode cX5_canPut 11 = .ok (.invokestatic 122, 3) := by decide +kernel
theorem dX5_canPut_14 : decode cX5_canPut 14 = .ok (.iconst (-1), 1) := by decide +kernel
theorem dX5_canPut_15 : decode cX5_canPut 15 = .ok (.ixor, 1) := by decide +kernel
theorem dX5_canPut_16 : decode cX5_canPut 16 = .ok (.iand, 1) := by decide +kernel
theorem dX5_canPut_17 : decode cX5_canPut 17 = .ok (.ifCond .ne 20, 3) := by decide +kernel
theorem dX5_canPut_20 : decode cX5_canPut 20 = .ok (.aload_n 0, 1) := by decide +kernel
theorem dX5_canPut_21 : decode cX5_canPut 21 = .ok (.aload_n 1, 1) := by decide +kernel
theorem dX5_canPut_22 : decode cX5_canPut 22 = .ok (.iload_n 3, 1) := by decide +kernel
theorem dX5_canPut_23 : decode cX5_canPut 23 = .ok (.invokevirtual 157, 3) := by decide +kernel
theorem dX5_canPut_26 : decode cX5_canPut 26 = .ok (.iload_n 2, 1) := by decide +kernel
theorem dX5_canPut_27 : decode cX5_canPut 27 = .ok (.invokestatic 75, 3) := by decide +kernel
theorem dX5_canPut_30 : decode cX5_canPut 30 = .ok (.if_icmp .lt 7, 3) := by decide +kernel
theorem dX5_canPut_33 : decode cX5_canPut 33 = .ok (.iconst 1, 1) := by decide +kernel
theorem dX5_canPut_34 : decode cX5_canPut 34 = .ok (.goto 4, 3) := by decide +kernel
theorem dX5_canPut_37 : decode cX5_canPut 37 = .ok (.iconst 0, 1) := by decide +kernel
theorem dX5_canPut_38 : decode cX5_canPut 38 = .ok (.ireturn, 1) := by decide +kernel
theorem dX5_goPut_0 : decode cX5_goPut 0 = .ok (.aload_n 1, 1) := by decide +kernel
theorem dX5_goPut_1 : decode cX5_goPut 1 = .ok (.iload_n 2, 1) := by decide +kernel
theorem dX5_goPut_2 : decode cX5_goPut 2 = .ok (.iload_n 3, 1) := by decide +kernel
theorem dX5_goPut_3 : decode cX5_goPut 3 = .ok (.iconst 1, 1) := by decide +kernel
theorem dX5_goPut_4 : decode cX5_goPut 4 = .ok (.iadd, 1) := by decide +kernel
theorem dX5_goPut_5 : decode cX5_goPut 5 = .ok (.iastore, 1) := by decide +kernel
theorem dX5_goPut_6 : decode cX5_goPut 6 = .ok (.aload_n 0, 1) := by decide +kernel
theorem dX5_goPut_7 : decode cX5_goPut 7 = .ok (.aload_n 1, 1) := by decide +kernel
theorem dX5_goPut_8 : decode cX5_goPut 8 = .ok (.invokevirtual 151, 3) := by decide +kernel
theorem dX5_goPut_11 : decode cX5_goPut 11 = .ok (.istore 4, 2) := by decide +kernel
theorem dX5_goPut_13 : decode cX5_goPut 13 = .ok (.aload_n 1, 1) := by decide +kernel
theorem dX5_goPut_14 : decode cX5_goPut 14 = .ok (.bipush 16, 2) := by decide +kernel
theorem dX5_goPut_16 : decode cX5_goPut 16 = .ok (.dup2, 1) := by decide +kernel
theorem dX5_goPut_17 : decode cX5_goPut 17 = .ok (.iaload, 1) := by decide +kernel
theorem dX5_goPut_18 : decode cX5_goPut 18 = .ok (.iload 4, 2) := by decide +kernel
theorem dX5_goPut_20 : decode cX5_goPut 20 = .ok (.iadd, 1) := by decide +kernel
theorem dX5_goPut_21 : decode cX5_goPut 21 = .ok (.iastore, 1) := by decide +kernel
theorem dX5_goPut_22 : decode cX5_goPut 22 = .ok (.iload 4, 2) := by decide +kernel
theorem dX5_goPut_24 : decode cX5_goPut 24 = .ok (.ireturn, 1) := by decide +kernel
theorem dX5_put_0 : decode cX5_put 0 = .ok (.aload_n 0, 1) := by decide +kernel
theorem dX5_put_1 : decode cX5_put 1 = .ok (.iconst 0, 1) := by decide +kernel
theorem dX5_put_2 : decode cX5_put 2 = .ok (.putfield 59, 3) := by decide +kernel
theorem dX5_put_5 : decode cX5_put 5 = .ok (.iload_n 1, 1) := by decide +kernel
theorem dX5_put_6 : decode cX5_put 6 = .ok (.invokestatic 135, 3) := by decide +kernel
theorem dX5_put_9 : decode cX5_put 9 = .ok (.ifCond .ne 10, 3) := by decide +kernel
theorem dX5_put_12 : decode cX5_put 12 = .ok (.iload_n 2, 1) := by decide +kernel
theorem dX5_put_13 : decode cX5_put 13 = .ok (.invokestatic 172, 3) := by decide +kernel
theorem dX5_put_16 : decode cX5_put 16 = .ok (.ifCond .eq 5, 3) := by decide +kernel
theorem dX5_put_19 : decode cX5_put 19 = .ok (.iconst (-1), 1) := by decide +kernel
theorem dX5_put_20 : decode cX5_put 20 = .ok (.ireturn, 1) := by decide +kernel
theorem dX5_put_21 : decode cX5_put 21 = .ok (.aload_n 0, 1) := by decide +kernel
theorem dX5_put_22 : decode cX5_put 22 = .ok (.getfield 22, 3) := by decide +kernel
theorem dX5_put_25 : decode cX5_put 25 = .ok (.iload_n 1, 1) := by decide +kernel
theorem dX5_put_26 : decode cX5_put 26 = .ok (.iaload, 1) := by decide +kernel
theorem dX5_put_27 : decode cX5_put 27 = .ok (.ifCond .le 6, 3) := by decide +kernel
theorem dX5_put_30 : decode cX5_put 30 = .ok (.bipush (-4), 2) := by decide +kernel
theorem dX5_put_32 : decode cX5_put 32 = .ok (.ireturn, 1) := by decide +kernel
theorem dX5_put_33 : decode cX5_put 33 = .ok (.aload_n 0, 1) := by decide +kernel
theorem dX5_put_34 : decode cX5_put 34 = .ok (.aload_n 0, 1) := by decide +kernel
theorem dX5_put_35 : decode cX5_put 35 = .ok (.getfield 22, 3) := by decide +kernel
theorem dX5_put_38 : decode cX5_put 38 = .ok (.iload_n 1, 1) := by decide +kernel
theorem dX5_put_39 : decode cX5_put 39 = .ok (.iload_n 2, 1) := by decide +kernel
theorem dX5_put_40 : decode cX5_put 40 = .ok (.invokevirtual 181, 3) := by decide +kernel
theorem dX5_put_43 : decode cX5_put 43 = .ok (.ifCond .ne 6, 3) := by decide +kernel
theorem dX5_put_46 : decode cX5_put 46 = .ok (.bipush (-3), 2) := by decide +kernel
theorem dX5_put_48 : decode cX5_put 48 = .ok (.ireturn, 1) := by decide +kernel
theorem dX5_put_49 : decode cX5_put 49 = .ok (.aload_n 0, 1) := by decide +kernel
theorem dX5_put_50 : decode cX5_put 50 = .ok (.invokevirtual 185, 3) := by decide +kernel
theorem dX5_put_53 : decode cX5_put 53 = .ok (.aload_n 0, 1) := by decide +kernel
theorem dX5_put_54 : decode cX5_put 54 = .ok (.aload_n 0, 1) := by decide +kernel
theorem dX5_put_55 : decode cX5_put 55 = .ok (.getfield 22, 3) := by decide +kernel
theorem dX5_put_58 : decode cX5_put 58 = .ok (.iload_n 1, 1) := by decide +kernel
theorem dX5_put_59 : decode cX5_put 59 = .ok (.iload_n 2, 1) := by decide +kernel
theorem dX5_put_60 : decode cX5_put 60 = .ok (.invokevirtual 188, 3) := by decide +kernel
theorem dX5_put_63 : decode cX5_put 63 = .ok (.ireturn, 1) := by decide +kernel
theorem dX5_take_0 : decode cX5_take 0 = .ok (.aload_n 0, 1) := by decide +kernel
theorem dX5_take_1 : decode cX5_take 1 = .ok (.iconst 0, 1) := by decide +kernel
theorem dX5_take_2 : decode cX5_take 2 = .ok (.putfield 59, 3) := by decide +kernel
theorem dX5_take_5 : decode cX5_take 5 = .ok (.iload_n 1, 1) := by decide +kernel
theorem dX5_take_6 : decode cX5_take 6 = .ok (.invokestatic 135, 3) := by decide +kernel
theorem dX5_take_9 : decode cX5_take 9 = .ok (.ifCond .eq 5, 3) := by decide +kernel
theorem dX5_take_12 : decode cX5_take 12 = .ok (.iconst (-1), 1) := by decide +kernel
theorem dX5_take_13 : decode cX5_take 13 = .ok (.ireturn, 1) := by decide +kernel
theorem dX5_take_14 : decode cX5_take 14 = .ok (.aload_n 0, 1) := by decide +kernel
theorem dX5_take_15 : decode cX5_take 15 = .ok (.getfield 22, 3) := by decide +kernel
theorem dX5_take_18 : decode cX5_take 18 = .ok (.iload_n 1, 1) := by decide +kernel
theorem dX5_take_19 : decode cX5_take 19 = .ok (.iaload, 1) := by decide +kernel
theorem dX5_take_20 : decode cX5_take 20 = .ok (.ifCond .eq 14, 3) := by decide +kernel
theorem dX5_take_23 : decode cX5_take 23 = .ok (.aload_n 0, 1) := by decide +kernel
theorem dX5_take_24 : decode cX5_take 24 = .ok (.getfield 22, 3) := by decide +kernel
theorem dX5_take_27 : decode cX5_take 27 = .ok (.iload_n 1, 1) := by decide +kernel
theorem dX5_take_28 : decode cX5_take 28 = .ok (.invokestatic 177, 3) := by decide +kernel
theorem dX5_take_31 : decode cX5_take 31 = .ok (.ifCond .ne 6, 3) := by decide +kernel
theorem dX5_take_34 : decode cX5_take 34 = .ok (.bipush (-3), 2) := by decide +kernel
theorem dX5_take_36 : decode cX5_take 36 = .ok (.ireturn, 1) := by decide +kernel
theorem dX5_take_37 : decode cX5_take 37 = .ok (.aload_n 0, 1) := by decide +kernel
theorem dX5_take_38 : decode cX5_take 38 = .ok (.invokevirtual 185, 3) := by decide +kernel
theorem dX5_take_41 : decode cX5_take 41 = .ok (.aload_n 0, 1) := by decide +kernel
theorem dX5_take_42 : decode cX5_take 42 = .ok (.getfield 22, 3) := by decide +kernel
theorem dX5_take_45 : decode cX5_take 45 = .ok (.iload_n 1, 1) := by decide +kernel
theorem dX5_take_46 : decode cX5_take 46 = .ok (.iconst 0, 1) := by decide +kernel
theorem dX5_take_47 : decode cX5_take 47 = .ok (.iastore, 1) := by decide +kernel
theorem dX5_take_48 : decode cX5_take 48 = .ok (.iload_n 1, 1) := by decide +kernel
theorem dX5_take_49 : decode cX5_take 49 = .ok (.invokestatic 75, 3) := by decide +kernel
theorem dX5_take_52 : decode cX5_take 52 = .ok (.ireturn, 1) := by decide +kernel
theorem dX5_isTentOf_0 : decode cX5_isTentOf 0 = .ok (.aload_n 1, 1) := by decide +kernel
theorem dX5_isTentOf_1 : decode cX5_isTentOf 1 = .ok (.iload_n 2, 1) := by decide +kernel
theorem dX5_isTentOf_2 : decode cX5_isTentOf 2 = .ok (.iaload, 1) := by decide +kernel
theorem dX5_isTentOf_3 : decode cX5_isTentOf 3 = .ok (.ifCond .le 22, 3) := by decide +kernel
theorem dX5_isTentOf_6 : decode cX5_isTentOf 6 = .ok (.iload_n 2, 1) := by decide +kernel
theorem dX5_isTentOf_7 : decode cX5_isTentOf 7 = .ok (.invokestatic 71, 3) := by decide +kernel
theorem dX5_isTentOf_10 : decode cX5_isTentOf 10 = .ok (.ifCond .ne 15, 3) := by decide +kernel
theorem dX5_isTentOf_13 : decode cX5_isTentOf 13 = .ok (.iload_n 2, 1) := by decide +kernel
theorem dX5_isTentOf_14 : decode cX5_isTentOf 14 = .ok (.invokestatic 160, 3) := by decide +kernel
theorem dX5_isTentOf_17 : decode cX5_isTentOf 17 = .ok (.iload_n 3, 1) := by decide +kernel
theorem dX5_isTentOf_18 : decode cX5_isTentOf 18 = .ok (.if_icmp .ne 7, 3) := by decide +kernel
theorem dX5_isTentOf_21 : decode cX5_isTentOf 21 = .ok (.iconst 1, 1) := by decide +kernel
theorem dX5_isTentOf_22 : decode cX5_isTentOf 22 = .ok (.goto 4, 3) := by decide +kernel
theorem dX5_isTentOf_25 : decode cX5_isTentOf 25 = .ok (.iconst 0, 1) := by decide +kernel
theorem dX5_isTentOf_26 : decode cX5_isTentOf 26 = .ok (.ireturn, 1) := by decide +kernel
theorem dX5_firm_0 : decode cX5_firm 0 = .ok (.iload_n 2, 1) := by decide +kernel
theorem dX5_firm_1 : decode cX5_firm 1 = .ok (.aload_n 1, 1) := by decide +kernel
theorem dX5_firm_2 : decode cX5_firm 2 = .ok (.iload_n 2, 1) := by decide +kernel
theorem dX5_firm_3 : decode cX5_firm 3 = .ok (.iaload, 1) := by decide +kernel
theorem dX5_firm_4 : decode cX5_firm 4 = .ok (.iconst 1, 1) := by decide +kernel
theorem dX5_firm_5 : decode cX5_firm 5 = .ok (.isub, 1) := by decide +kernel
theorem dX5_firm_6 : decode cX5_firm 6 = .ok (.invokestatic 83, 3) := by decide +kernel
theorem dX5_firm_9 : decode cX5_firm 9 = .ok (.aload_n 0, 1) := by decide +kernel
theorem dX5_firm_10 : decode cX5_firm 10 = .ok (.getfield 28, 3) := by decide +kernel
theorem dX5_firm_13 : decode cX5_firm 13 = .ok (.iload_n 2, 1) := by decide +kernel
theorem dX5_firm_14 : decode cX5_firm 14 = .ok (.iaload, 1) := by decide +kernel
theorem dX5_firm_15 : decode cX5_firm 15 = .ok (.iadd, 1) := by decide +kernel
theorem dX5_firm_16 : decode cX5_firm 16 = .ok (.aload_n 1, 1) := by decide +kernel
theorem dX5_firm_17 : decode cX5_firm 17 = .ok (.iload_n 2, 1) := by decide +kernel
theorem dX5_firm_18 : decode cX5_firm 18 = .ok (.iaload, 1) := by decide +kernel
theorem dX5_firm_19 : decode cX5_firm 19 = .ok (.iconst 1, 1) := by decide +kernel
theorem dX5_firm_20 : decode cX5_firm 20 = .ok (.isub, 1) := by decide +kernel
theorem dX5_firm_21 : decode cX5_firm 21 = .ok (.invokestatic 192, 3) := by decide +kernel
theorem dX5_firm_24 : decode cX5_firm 24 = .ok (.iadd, 1) := by decide +kernel
theorem dX5_firm_25 : decode cX5_firm 25 = .ok (.ireturn, 1) := by decide +kernel
theorem dX5_goDraught_0 : decode cX5_goDraught 0 = .ok (.aload_n 0, 1) := by decide +kernel
theorem dX5_goDraught_1 : decode cX5_goDraught 1 = .ok (.aload_n 1, 1) := by decide +kernel
theorem dX5_goDraught_2 : decode cX5_goDraught 2 = .ok (.invokevirtual 100, 3) := by decide +kernel
theorem dX5_goDraught_5 : decode cX5_goDraught 5 = .ok (.iconst 0, 1) := by decide +kernel
theorem dX5_goDraught_6 : decode cX5_goDraught 6 = .ok (.istore 4, 2) := by decide +kernel
theorem dX5_goDraught_8 : decode cX5_goDraught 8 = .ok (.iconst 0, 1) := by decide +kernel
theorem dX5_goDraught_9 : decode cX5_goDraught 9 = .ok (.istore 5, 2) := by decide +kernel
theorem dX5_goDraught_11 : decode cX5_goDraught 11 = .ok (.iload 5, 2) := by decide +kernel
theorem dX5_goDraught_13 : decode cX5_goDraught 13 = .ok (.bipush 16, 2) := by decide +kernel
theorem dX5_goDraught_15 : decode cX5_goDraught 15 = .ok (.if_icmp .ge 47, 3) := by decide +kernel
theorem dX5_goDraught_18 : decode cX5_goDraught 18 = .ok (.iload 4, 2) := by decide +kernel
theorem dX5_goDraught_20 : decode cX5_goDraught 20 = .ok (.aload_n 0, 1) := by decide +kernel
theorem dX5_goDraught_21 : decode cX5_goDraught 21 = .ok (.aload_n 1, 1) := by decide +kernel
theorem dX5_goDraught_22 : decode cX5_goDraught 22 = .ok (.iload 5, 2) := by decide +kernel
theorem dX5_goDraught_24 : decode cX5_goDraught 24 = .ok (.iload_n 2, 1) := by decide +kernel
theorem dX5_goDraught_25 : decode cX5_goDraught 25 = .ok (.invokevirtual 195, 3) := by decide +kernel
theorem dX5_goDraught_28 : decode cX5_goDraught 28 = .ok (.ifCond .eq 24, 3) := by decide +kernel
theorem dX5_goDraught_31 : decode cX5_goDraught 31 = .ok (.aload_n 0, 1) := by decide +kernel
theorem dX5_goDraught_32 : decode cX5_goDraught 32 = .ok (.aload_n 1, 1) := by decide +kernel
theorem dX5_goDraught_33 : decode cX5_goDraught 33 = .ok (.iload 5, 2) := by decide +kernel
theorem dX5_goDraught_35 : decode cX5_goDraught 35 = .ok (.invokevirtual 198, 3) := by decide +kernel
theorem dX5_goDraught_38 : decode cX5_goDraught 38 = .ok (.bipush 8, 2) := by decide +kernel
theorem dX5_goDraught_40 : decode cX5_goDraught 40 = .ok (.iload_n 3, 1) := by decide +kernel
theorem dX5_goDraught_41 : decode cX5_goDraught 41 = .ok (.imul, 1) := by decide +kernel
theorem dX5_goDraught_42 : decode cX5_goDraught 42 = .ok (.if_icmp .ge 10, 3) := by decide +kernel
theorem dX5_goDraught_45 : decode cX5_goDraught 45 = .ok (.iconst 1, 1) := by decide +kernel
theorem dX5_goDraught_46 : decode cX5_goDraught 46 = .ok (.iload 5, 2) := by decide +kernel
theorem dX5_goDraught_48 : decode cX5_goDraught 48 = .ok (.ishl, 1) := by decide +kernel
theorem dX5_goDraught_49 : decode cX5_goDraught 49 = .ok (.goto 4, 3) := by decide +kernel
theorem dX5_goDraught_52 : decode cX5_goDraught 52 = .ok (.iconst 0, 1) := by decide +kernel
theorem dX5_goDraught_53 : decode cX5_goDraught 53 = .ok (.ior, 1) := by decide +kernel
theorem dX5_goDraught_54 : decode cX5_goDraught 54 = .ok (.istore 4, 2) := by decide +kernel
theorem dX5_goDraught_56 : decode cX5_goDraught 56 = .ok (.iinc 5 1, 3) := by decide +kernel
theorem dX5_goDraught_59 : decode cX5_goDraught 59 = .ok (.goto (-48), 3) := by decide +kernel
theorem dX5_goDraught_62 : decode cX5_goDraught 62 = .ok (.aload_n 1, 1) := by decide +kernel
theorem dX5_goDraught_63 : decode cX5_goDraught 63 = .ok (.iload 4, 2) := by decide +kernel
theorem dX5_goDraught_65 : decode cX5_goDraught 65 = .ok (.invokestatic 111, 3) := by decide +kernel
theorem dX5_goDraught_68 : decode cX5_goDraught 68 = .ok (.istore 5, 2) := by decide +kernel
theorem dX5_goDraught_70 : decode cX5_goDraught 70 = .ok (.iload 5, 2) := by decide +kernel
theorem dX5_goDraught_72 : decode cX5_goDraught 72 = .ok (.aload_n 0, 1) := by decide +kernel
theorem dX5_goDraught_73 : decode cX5_goDraught 73 = .ok (.aload_n 1, 1) := by decide +kernel
theorem dX5_goDraught_74 : decode cX5_goDraught 74 = .ok (.invokevirtual 151, 3) := by decide +kernel
theorem dX5_goDraught_77 : decode cX5_goDraught 77 = .ok (.iadd, 1) := by decide +kernel
theorem dX5_goDraught_78 : decode cX5_goDraught 78 = .ok (.istore 5, 2) := by decide +kernel
theorem dX5_goDraught_80 : decode cX5_goDraught 80 = .ok (.aload_n 1, 1) := by decide +kernel
theorem dX5_goDraught_81 : decode cX5_goDraught 81 = .ok (.bipush 16, 2) := by decide +kernel
theorem dX5_goDraught_83 : decode cX5_goDraught 83 = .ok (.dup2, 1) := by decide +kernel
theorem dX5_goDraught_84 : decode cX5_goDraught 84 = .ok (.iaload, 1) := by decide +kernel
theorem dX5_goDraught_85 : decode cX5_goDraught 85 = .ok (.iload 5, 2) := by decide +kernel
theorem dX5_goDraught_87 : decode cX5_goDraught 87 = .ok (.iadd, 1) := by decide +kernel
theorem dX5_goDraught_88 : decode cX5_goDraught 88 = .ok (.iastore, 1) := by decide +kernel
theorem dX5_goDraught_89 : decode cX5_goDraught 89 = .ok (.iload 5, 2) := by decide +kernel
theorem dX5_goDraught_91 : decode cX5_goDraught 91 = .ok (.ireturn, 1) := by decide +kernel
theorem dX5_draught_0 : decode cX5_draught 0 = .ok (.aload_n 0, 1) := by decide +kernel
theorem dX5_draught_1 : decode cX5_draught 1 = .ok (.iconst 0, 1) := by decide +kernel
theorem dX5_draught_2 : decode cX5_draught 2 = .ok (.putfield 59, 3) := by decide +kernel
theorem dX5_draught_5 : decode cX5_draught 5 = .ok (.iload_n 1, 1) := by decide +kernel
theorem dX5_draught_6 : decode cX5_draught 6 = .ok (.i2l, 1) := by decide +kernel
theorem dX5_draught_7 : decode cX5_draught 7 = .ok (.lconst 0, 1) := by decide +kernel
theorem dX5_draught_8 : decode cX5_draught 8 = .ok (.ldc2_w 69, 3) := by decide +kernel
theorem dX5_draught_11 : decode cX5_draught 11 = .ok (.invokestatic 65, 3) := by decide +kernel
theorem dX5_draught_14 : decode cX5_draught 14 = .ok (.ifCond .ne 5, 3) := by decide +kernel
theorem dX5_draught_17 : decode cX5_draught 17 = .ok (.iconst (-1), 1) := by decide +kernel
theorem dX5_draught_18 : decode cX5_draught 18 = .ok (.ireturn, 1) := by decide +kernel
theorem dX5_draught_19 : decode cX5_draught 19 = .ok (.iload_n 2, 1) := by decide +kernel
theorem dX5_draught_20 : decode cX5_draught 20 = .ok (.i2l, 1) := by decide +kernel
theorem dX5_draught_21 : decode cX5_draught 21 = .ok (.lconst 1, 1) := by decide +kernel
theorem dX5_draught_22 : decode cX5_draught 22 = .ok (.ldc2_w 201, 3) := by decide +kernel
theorem dX5_draught_25 : decode cX5_draught 25 = .ok (.invokestatic 65, 3) := by decide +kernel
theorem dX5_draught_28 : decode cX5_draught 28 = .ok (.ifCond .ne 6, 3) := by decide +kernel
theorem dX5_draught_31 : decode cX5_draught 31 = .ok (.bipush (-2), 2) := by decide +kernel
theorem dX5_draught_33 : decode cX5_draught 33 = .ok (.ireturn, 1) := by decide +kernel
theorem dX5_draught_34 : decode cX5_draught 34 = .ok (.aload_n 0, 1) := by decide +kernel
theorem dX5_draught_35 : decode cX5_draught 35 = .ok (.invokevirtual 185, 3) := by decide +kernel
theorem dX5_draught_38 : decode cX5_draught 38 = .ok (.aload_n 0, 1) := by decide +kernel
theorem dX5_draught_39 : decode cX5_draught 39 = .ok (.aload_n 0, 1) := by decide +kernel
theorem dX5_draught_40 : decode cX5_draught 40 = .ok (.getfield 22, 3) := by decide +kernel
theorem dX5_draught_43 : decode cX5_draught 43 = .ok (.iload_n 1, 1) := by decide +kernel
theorem dX5_draught_44 : decode cX5_draught 44 = .ok (.iload_n 2, 1) := by decide +kernel
theorem dX5_draught_45 : decode cX5_draught 45 = .ok (.invokevirtual 203, 3) := by decide +kernel
theorem dX5_draught_48 : decode cX5_draught 48 = .ok (.ireturn, 1) := by decide +kernel
theorem dX5_undo_0 : decode cX5_undo 0 = .ok (.aload_n 0, 1) := by decide +kernel
theorem dX5_undo_1 : decode cX5_undo 1 = .ok (.iconst 0, 1) := by decide +kernel
theorem dX5_undo_2 : decode cX5_undo 2 = .ok (.putfield 59, 3) := by decide +kernel
theorem dX5_undo_5 : decode cX5_undo 5 = .ok (.aload_n 0, 1) := by decide +kernel
theorem dX5_undo_6 : decode cX5_undo 6 = .ok (.getfield 154, 3) := by decide +kernel
theorem dX5_undo_9 : decode cX5_undo 9 = .ok (.ifCond .ne 6, 3) := by decide +kernel
theorem dX5_undo_12 : decode cX5_undo 12 = .ok (.bipush (-3), 2) := by decide +kernel
theorem dX5_undo_14 : decode cX5_undo 14 = .ok (.ireturn, 1) := by decide +kernel
theorem dX5_undo_15 : decode cX5_undo 15 = .ok (.aload_n 0, 1) := by decide +kernel
theorem dX5_undo_16 : decode cX5_undo 16 = .ok (.dup, 1) := by decide +kernel
theorem dX5_undo_17 : decode cX5_undo 17 = .ok (.getfield 154, 3) := by decide +kernel
theorem dX5_undo_20 : decode cX5_undo 20 = .ok (.iconst 1, 1) := by decide +kernel
theorem dX5_undo_21 : decode cX5_undo 21 = .ok (.isub, 1) := by decide +kernel
theorem dX5_undo_22 : decode cX5_undo 22 = .ok (.putfield 154, 3) := by decide +kernel
theorem dX5_undo_25 : decode cX5_undo 25 = .ok (.iconst 0, 1) := by decide +kernel
theorem dX5_undo_26 : decode cX5_undo 26 = .ok (.istore_n 1, 1) := by decide +kernel
theorem dX5_undo_27 : decode cX5_undo 27 = .ok (.iload_n 1, 1) := by decide +kernel
theorem dX5_undo_28 : decode cX5_undo 28 = .ok (.bipush 17, 2) := by decide +kernel
theorem dX5_undo_30 : decode cX5_undo 30 = .ok (.if_icmp .ge 29, 3) := by decide +kernel
theorem dX5_undo_33 : decode cX5_undo 33 = .ok (.aload_n 0, 1) := by decide +kernel
theorem dX5_undo_34 : decode cX5_undo 34 = .ok (.getfield 22, 3) := by decide +kernel
theorem dX5_undo_37 : decode cX5_undo 37 = .ok (.iload_n 1, 1) := by decide +kernel
theorem dX5_undo_38 : decode cX5_undo 38 = .ok (.aload_n 0, 1) := by decide +kernel
theorem dX5_undo_39 : decode cX5_undo 39 = .ok (.getfield 31, 3) := by decide +kernel
theorem dX5_undo_42 : decode cX5_undo 42 = .ok (.bipush 17, 2) := by decide +kernel
theorem dX5_undo_44 : decode cX5_undo 44 = .ok (.aload_n 0, 1) := by decide +kernel
theorem dX5_undo_45 : decode cX5_undo 45 = .ok (.getfield 154, 3) := by decide +kernel
theorem dX5_undo_48 : decode cX5_undo 48 = .ok (.imul, 1) := by decide +kernel
theorem dX5_undo_49 : decode cX5_undo 49 = .ok (.iload_n 1, 1) := by decide +kernel
theorem dX5_undo_50 : decode cX5_undo 50 = .ok (.iadd, 1) := by decide +kernel
theorem dX5_undo_51 : decode cX5_undo 51 = .ok (.iaload, 1) := by decide +kernel
theorem dX5_undo_52 : decode cX5_undo 52 = .ok (.iastore, 1) := by decide +kernel
theorem dX5_undo_53 : decode cX5_undo 53 = .ok (.iinc 1 1, 3) := by decide +kernel
theorem dX5_undo_56 : decode cX5_undo 56 = .ok (.goto (-29), 3) := by decide +kernel
theorem dX5_undo_59 : decode cX5_undo 59 = .ok (.aload_n 0, 1) := by decide +kernel
theorem dX5_undo_60 : decode cX5_undo 60 = .ok (.getfield 154, 3) := by decide +kernel
theorem dX5_undo_63 : decode cX5_undo 63 = .ok (.ireturn, 1) := by decide +kernel
theorem dX5_open_0 : decode cX5_open 0 = .ok (.aload_n 0, 1) := by decide +kernel
theorem dX5_open_1 : decode cX5_open 1 = .ok (.iconst 0, 1) := by decide +kernel
theorem dX5_open_2 : decode cX5_open 2 = .ok (.putfield 59, 3) := by decide +kernel
theorem dX5_open_5 : decode cX5_open 5 = .ok (.iload_n 1, 1) := by decide +kernel
theorem dX5_open_6 : decode cX5_open 6 = .ok (.invokestatic 172, 3) := by decide +kernel
theorem dX5_open_9 : decode cX5_open 9 = .ok (.ifCond .eq 5, 3) := by decide +kernel
theorem dX5_open_12 : decode cX5_open 12 = .ok (.iconst (-1), 1) := by decide +kernel
theorem dX5_open_13 : decode cX5_open 13 = .ok (.ireturn, 1) := by decide +kernel
theorem dX5_open_14 : decode cX5_open 14 = .ok (.iconst 0, 1) := by decide +kernel
theorem dX5_open_15 : decode cX5_open 15 = .ok (.istore_n 2, 1) := by decide +kernel
theorem dX5_open_16 : decode cX5_open 16 = .ok (.iconst 0, 1) := by decide +kernel
theorem dX5_open_17 : decode cX5_open 17 = .ok (.istore_n 3, 1) := by decide +kernel
theorem dX5_open_18 : decode cX5_open 18 = .ok (.iload_n 3, 1) := by decide +kernel
theorem dX5_open_19 : decode cX5_open 19 = .ok (.bipush 16, 2) := by decide +kernel
theorem dX5_open_21 : decode cX5_open 21 = .ok (.if_icmp .ge 32, 3) := by decide +kernel
theorem dX5_open_24 : decode cX5_open 24 = .ok (.iload_n 2, 1) := by decide +kernel
theorem dX5_open_25 : decode cX5_open 25 = .ok (.aload_n 0, 1) := by decide +kernel
theorem dX5_open_26 : decode cX5_open 26 = .ok (.aload_n 0, 1) := by decide +kernel
theorem dX5_open_27 : decode cX5_open 27 = .ok (.getfield 22, 3) := by decide +kernel
theorem dX5_open_30 : decode cX5_open 30 = .ok (.iload_n 3, 1) := by decide +kernel
theorem dX5_open_31 : decode cX5_open 31 = .ok (.iload_n 1, 1) := by decide +kernel
theorem dX5_open_32 : decode cX5_open 32 = .ok (.invokevirtual 181, 3) := by decide +kernel
theorem dX5_open_35 : decode cX5_open 35 = .ok (.ifCond .eq 9, 3) := by decide +kernel
theorem dX5_open_38 : decode cX5_open 38 = .ok (.iconst 1, 1) := by decide +kernel
theorem dX5_open_39 : decode cX5_open 39 = .ok (.iload_n 3, 1) := by decide +kernel
theorem dX5_open_40 : decode cX5_open 40 = .ok (.ishl, 1) := by decide +kernel
theorem dX5_open_41 : decode cX5_open 41 = .ok (.goto 4, 3) := by decide +kernel
theorem dX5_open_44 : decode cX5_open 44 = .ok (.iconst 0, 1) := by decide +kernel
theorem dX5_open_45 : decode cX5_open 45 = .ok (.ior, 1) := by decide +kernel
theorem dX5_open_46 : decode cX5_open 46 = .ok (.istore_n 2, 1) := by decide +kernel
theorem dX5_open_47 : decode cX5_open 47 = .ok (.iinc 3 1, 3) := by decide +kernel
theorem dX5_open_50 : decode cX5_open 50 = .ok (.goto (-32), 3) := by decide +kernel
theorem dX5_open_53 : decode cX5_open 53 = .ok (.iload_n 2, 1) := by decide +kernel
theorem dX5_open_54 : decode cX5_open 54 = .ok (.ireturn, 1) := by decide +kernel
theorem dX5_spread_0 : decode cX5_spread 0 = .ok (.aload_n 0, 1) := by decide +kernel
theorem dX5_spread_1 : decode cX5_spread 1 = .ok (.iconst 0, 1) := by decide +kernel
theorem dX5_spread_2 : decode cX5_spread 2 = .ok (.putfield 59, 3) := by decide +kernel
theorem dX5_spread_5 : decode cX5_spread 5 = .ok (.iload_n 1, 1) := by decide +kernel
theorem dX5_spread_6 : decode cX5_spread 6 = .ok (.invokestatic 135, 3) := by decide +kernel
theorem dX5_spread_9 : decode cX5_spread 9 = .ok (.ifCond .eq 5, 3) := by decide +kernel
theorem dX5_spread_12 : decode cX5_spread 12 = .ok (.iconst (-1), 1) := by decide +kernel
theorem dX5_spread_13 : decode cX5_spread 13 = .ok (.ireturn, 1) := by decide +kernel
theorem dX5_spread_14 : decode cX5_spread 14 = .ok (.aload_n 0, 1) := by decide +kernel
theorem dX5_spread_15 : decode cX5_spread 15 = .ok (.getfield 22, 3) := by decide +kernel
theorem dX5_spread_18 : decode cX5_spread 18 = .ok (.iload_n 1, 1) := by decide +kernel
theorem dX5_spread_19 : decode cX5_spread 19 = .ok (.iaload, 1) := by decide +kernel
theorem dX5_spread_20 : decode cX5_spread 20 = .ok (.ifCond .ne 8, 3) := by decide +kernel
theorem dX5_spread_23 : decode cX5_spread 23 = .ok (.bipush (-3), 2) := by decide +kernel
theorem dX5_spread_25 : decode cX5_spread 25 = .ok (.goto 13, 3) := by decide +kernel
theorem dX5_spread_28 : decode cX5_spread 28 = .ok (.aload_n 0, 1) := by decide +kernel
theorem dX5_spread_29 : decode cX5_spread 29 = .ok (.getfield 22, 3) := by decide +kernel
theorem dX5_spread_32 : decode cX5_spread 32 = .ok (.iconst 1, 1) := by decide +kernel
theorem dX5_spread_33 : decode cX5_spread 33 = .ok (.iload_n 1, 1) := by decide +kernel
theorem dX5_spread_34 : decode cX5_spread 34 = .ok (.ishl, 1) := by decide +kernel
theorem dX5_spread_35 : decode cX5_spread 35 = .ok (.invokestatic 94, 3) := by decide +kernel
theorem dX5_spread_38 : decode cX5_spread 38 = .ok (.ireturn, 1) := by decide +kernel
theorem dX5_stands_0 : decode cX5_stands 0 = .ok (.aload_n 0, 1) := by decide +kernel
theorem dX5_stands_1 : decode cX5_stands 1 = .ok (.iconst 0, 1) := by decide +kernel
theorem dX5_stands_2 : decode cX5_stands 2 = .ok (.putfield 59, 3) := by decide +kernel
theorem dX5_stands_5 : decode cX5_stands 5 = .ok (.iload_n 1, 1) := by decide +kernel
theorem dX5_stands_6 : decode cX5_stands 6 = .ok (.i2l, 1) := by decide +kernel
theorem dX5_stands_7 : decode cX5_stands 7 = .ok (.lconst 0, 1) := by decide +kernel
theorem dX5_stands_8 : decode cX5_stands 8 = .ok (.ldc2_w 69, 3) := by decide +kernel
theorem dX5_stands_11 : decode cX5_stands 11 = .ok (.invokestatic 65, 3) := by decide +kernel
theorem dX5_stands_14 : decode cX5_stands 14 = .ok (.ifCond .ne 5, 3) := by decide +kernel
theorem dX5_stands_17 : decode cX5_stands 17 = .ok (.iconst (-1), 1) := by decide +kernel
theorem dX5_stands_18 : decode cX5_stands 18 = .ok (.ireturn, 1) := by decide +kernel
theorem dX5_stands_19 : decode cX5_stands 19 = .ok (.aload_n 0, 1) := by decide +kernel
theorem dX5_stands_20 : decode cX5_stands 20 = .ok (.aload_n 0, 1) := by decide +kernel
theorem dX5_stands_21 : decode cX5_stands 21 = .ok (.getfield 22, 3) := by decide +kernel
theorem dX5_stands_24 : decode cX5_stands 24 = .ok (.invokevirtual 100, 3) := by decide +kernel
theorem dX5_stands_27 : decode cX5_stands 27 = .ok (.bipush 9, 2) := by decide +kernel
theorem dX5_stands_29 : decode cX5_stands 29 = .ok (.istore_n 2, 1) := by decide +kernel
theorem dX5_stands_30 : decode cX5_stands 30 = .ok (.iconst 0, 1) := by decide +kernel
theorem dX5_stands_31 : decode cX5_stands 31 = .ok (.istore_n 3, 1) := by decide +kernel
theorem dX5_stands_32 : decode cX5_stands 32 = .ok (.iload_n 3, 1) := by decide +kernel
theorem dX5_stands_33 : decode cX5_stands 33 = .ok (.bipush 16, 2) := by decide +kernel
theorem dX5_stands_35 : decode cX5_stands 35 = .ok (.if_icmp .ge 54, 3) := by decide +kernel
theorem dX5_stands_38 : decode cX5_stands 38 = .ok (.aload_n 0, 1) := by decide +kernel
theorem dX5_stands_39 : decode cX5_stands 39 = .ok (.aload_n 0, 1) := by decide +kernel
theorem dX5_stands_40 : decode cX5_stands 40 = .ok (.getfield 22, 3) := by decide +kernel
theorem dX5_stands_43 : decode cX5_stands 43 = .ok (.iload_n 3, 1) := by decide +kernel
theorem dX5_stands_44 : decode cX5_stands 44 = .ok (.iload_n 1, 1) := by decide +kernel
theorem dX5_stands_45 : decode cX5_stands 45 = .ok (.invokevirtual 195, 3) := by decide +kernel
theorem dX5_stands_48 : decode cX5_stands 48 = .ok (.ifCond .eq 18, 3) := by decide +kernel
theorem dX5_stands_51 : decode cX5_stands 51 = .ok (.aload_n 0, 1) := by decide +kernel
theorem dX5_stands_52 : decode cX5_stands 52 = .ok (.aload_n 0, 1) := by decide +kernel
theorem dX5_stands_53 : decode cX5_stands 53 = .ok (.getfield 22, 3) := by decide +kernel
theorem dX5_stands_56 : decode cX5_stands 56 = .ok (.iload_n 3, 1) := by decide +kernel
theorem dX5_stands_57 : decode cX5_stands 57 = .ok (.invokevirtual 198, 3) := by decide +kernel
theorem dX5_stands_60 : decode cX5_stands 60 = .ok (.bipush 8, 2) := by decide +kernel
theorem dX5_stands_62 : decode cX5_stands 62 = .ok (.idiv, 1) := by decide +kernel
theorem dX5_stands_63 : decode cX5_stands 63 = .ok (.goto 5, 3) := by decide +kernel
theorem dX5_stands_66 : decode cX5_stands 66 = .ok (.bipush 9, 2) := by decide +kernel
theorem dX5_stands_68 : decode cX5_stands 68 = .ok (.istore 4, 2) := by decide +kernel
theorem dX5_stands_70 : decode cX5_stands 70 = .ok (.iload 4, 2) := by decide +kernel
theorem dX5_stands_72 : decode cX5_stands 72 = .ok (.iload_n 2, 1) := by decide +kernel
theorem dX5_stands_73 : decode cX5_stands 73 = .ok (.if_icmp .ge 8, 3) := by decide +kernel
theorem dX5_stands_76 : decode cX5_stands 76 = .ok (.iload 4, 2) := by decide +kernel
theorem dX5_stands_78 : decode cX5_stands 78 = .ok (.goto 4, 3) := by decide +kernel
theorem dX5_stands_81 : decode cX5_stands 81 = .ok (.iload_n 2, 1) := by decide +kernel
theorem dX5_stands_82 : decode cX5_stands 82 = .ok (.istore_n 2, 1) := by decide +kernel
theorem dX5_stands_83 : decode cX5_stands 83 = .ok (.iinc 3 1, 3) := by decide +kernel
theorem dX5_stands_86 : decode cX5_stands 86 = .ok (.goto (-54), 3) := by decide +kernel
theorem dX5_stands_89 : decode cX5_stands 89 = .ok (.iload_n 2, 1) := by decide +kernel
theorem dX5_stands_90 : decode cX5_stands 90 = .ok (.ireturn, 1) := by decide +kernel
theorem dX5_wanted_0 : decode cX5_wanted 0 = .ok (.iconst 1, 1) := by decide +kernel
theorem dX5_wanted_1 : decode cX5_wanted 1 = .ok (.iload_n 1, 1) := by decide +kernel
theorem dX5_wanted_2 : decode cX5_wanted 2 = .ok (.ishl, 1) := by decide +kernel
theorem dX5_wanted_3 : decode cX5_wanted 3 = .ok (.istore_n 2, 1) := by decide +kernel
theorem dX5_wanted_4 : decode cX5_wanted 4 = .ok (.iload_n 1, 1) := by decide +kernel
theorem dX5_wanted_5 : decode cX5_wanted 5 = .ok (.istore_n 3, 1) := by decide +kernel
theorem dX5_wanted_6 : decode cX5_wanted 6 = .ok (.iload_n 3, 1) := by decide +kernel
theorem dX5_wanted_7 : decode cX5_wanted 7 = .ok (.ifCond .lt 28, 3) := by decide +kernel
theorem dX5_wanted_10 : decode cX5_wanted 10 = .ok (.iload_n 2, 1) := by decide +kernel
theorem dX5_wanted_11 : decode cX5_wanted 11 = .ok (.iload_n 2, 1) := by decide +kernel
theorem dX5_wanted_12 : decode cX5_wanted 12 = .ok (.iload_n 3, 1) := by decide +kernel
theorem dX5_wanted_13 : decode cX5_wanted 13 = .ok (.invokestatic 90, 3) := by decide +kernel
theorem dX5_wanted_16 : decode cX5_wanted 16 = .ok (.ifCond .eq 10, 3) := by decide +kernel
theorem dX5_wanted_19 : decode cX5_wanted 19 = .ok (.iload_n 3, 1) := by decide +kernel
theorem dX5_wanted_20 : decode cX5_wanted 20 = .ok (.invokestatic 87, 3) := by decide +kernel
theorem dX5_wanted_23 : decode cX5_wanted 23 = .ok (.goto 4, 3) := by decide +kernel
theorem dX5_wanted_26 : decode cX5_wanted 26 = .ok (.iconst 0, 1) := by decide +kernel
theorem dX5_wanted_27 : decode cX5_wanted 27 = .ok (.ior, 1) := by decide +kernel
theorem dX5_wanted_28 : decode cX5_wanted 28 = .ok (.istore_n 2, 1) := by decide +kernel
theorem dX5_wanted_29 : decode cX5_wanted 29 = .ok (.iinc 3 (-1), 3) := by decide +kernel
theorem dX5_wanted_32 : decode cX5_wanted 32 = .ok (.goto (-26), 3) := by decide +kernel
theorem dX5_wanted_35 : decode cX5_wanted 35 = .ok (.iload_n 2, 1) := by decide +kernel
theorem dX5_wanted_36 : decode cX5_wanted 36 = .ok (.aload_n 0, 1) := by decide +kernel
theorem dX5_wanted_37 : decode cX5_wanted 37 = .ok (.invokestatic 122, 3) := by decide +kernel
theorem dX5_wanted_40 : decode cX5_wanted 40 = .ok (.iconst (-1), 1) := by decide +kernel
theorem dX5_wanted_41 : decode cX5_wanted 41 = .ok (.ixor, 1) := by decide +kernel
theorem dX5_wanted_42 : decode cX5_wanted 42 = .ok (.iand, 1) := by decide +kernel
theorem dX5_wanted_43 : decode cX5_wanted 43 = .ok (.ireturn, 1) := by decide +kernel
theorem dX5_wants_0 : decode cX5_wants 0 = .ok (.aload_n 0, 1) := by decide +kernel
theorem dX5_wants_1 : decode cX5_wants 1 = .ok (.iconst 0, 1) := by decide +kernel
theorem dX5_wants_2 : decode cX5_wants 2 = .ok (.putfield 59, 3) := by decide +kernel
theorem dX5_wants_5 : decode cX5_wants 5 = .ok (.iload_n 1, 1) := by decide +kernel
theorem dX5_wants_6 : decode cX5_wants 6 = .ok (.invokestatic 135, 3) := by decide +kernel
theorem dX5_wants_9 : decode cX5_wants 9 = .ok (.ifCond .eq 5, 3) := by decide +kernel
theorem dX5_wants_12 : decode cX5_wants 12 = .ok (.iconst (-1), 1) := by decide +kernel
theorem dX5_wants_13 : decode cX5_wants 13 = .ok (.ireturn, 1) := by decide +kernel
theorem dX5_wants_14 : decode cX5_wants 14 = .ok (.iload_n 2, 1) := by decide +kernel
theorem dX5_wants_15 : decode cX5_wants 15 = .ok (.i2l, 1) := by decide +kernel
theorem dX5_wants_16 : decode cX5_wants 16 = .ok (.lconst 0, 1) := by decide +kernel
theorem dX5_wants_17 : decode cX5_wants 17 = .ok (.lconst 1, 1) := by decide +kernel
theorem dX5_wants_18 : decode cX5_wants 18 = .ok (.invokestatic 65, 3) := by decide +kernel
theorem dX5_wants_21 : decode cX5_wants 21 = .ok (.ifCond .ne 6, 3) := by decide +kernel
theorem dX5_wants_24 : decode cX5_wants 24 = .ok (.bipush (-2), 2) := by decide +kernel
theorem dX5_wants_26 : decode cX5_wants 26 = .ok (.ireturn, 1) := by decide +kernel
theorem dX5_wants_27 : decode cX5_wants 27 = .ok (.aload_n 0, 1) := by decide +kernel
theorem dX5_wants_28 : decode cX5_wants 28 = .ok (.getfield 22, 3) := by decide +kernel
theorem dX5_wants_31 : decode cX5_wants 31 = .ok (.iload_n 1, 1) := by decide +kernel
theorem dX5_wants_32 : decode cX5_wants 32 = .ok (.invokestatic 206, 3) := by decide +kernel
theorem dX5_wants_35 : decode cX5_wants 35 = .ok (.istore_n 3, 1) := by decide +kernel
theorem dX5_wants_36 : decode cX5_wants 36 = .ok (.iconst 0, 1) := by decide +kernel
theorem dX5_wants_37 : decode cX5_wants 37 = .ok (.istore 4, 2) := by decide +kernel
theorem dX5_wants_39 : decode cX5_wants 39 = .ok (.iconst 0, 1) := by decide +kernel
theorem dX5_wants_40 : decode cX5_wants 40 = .ok (.istore 5, 2) := by decide +kernel
theorem dX5_wants_42 : decode cX5_wants 42 = .ok (.iload 5, 2) := by decide +kernel
theorem dX5_wants_44 : decode cX5_wants 44 = .ok (.bipush 16, 2) := by decide +kernel
theorem dX5_wants_46 : decode cX5_wants 46 = .ok (.if_icmp .ge 40, 3) := by decide +kernel
theorem dX5_wants_49 : decode cX5_wants 49 = .ok (.iload 4, 2) := by decide +kernel
theorem dX5_wants_51 : decode cX5_wants 51 = .ok (.iload_n 3, 1) := by decide +kernel
theorem dX5_wants_52 : decode cX5_wants 52 = .ok (.iload 5, 2) := by decide +kernel
theorem dX5_wants_54 : decode cX5_wants 54 = .ok (.invokestatic 90, 3) := by decide +kernel
theorem dX5_wants_57 : decode cX5_wants 57 = .ok (.ifCond .eq 19, 3) := by decide +kernel
theorem dX5_wants_60 : decode cX5_wants 60 = .ok (.iload_n 2, 1) := by decide +kernel
theorem dX5_wants_61 : decode cX5_wants 61 = .ok (.ifCond .ne 7, 3) := by decide +kernel
theorem dX5_wants_64 : decode cX5_wants 64 = .ok (.iconst 1, 1) := by decide +kernel
theorem dX5_wants_65 : decode cX5_wants 65 = .ok (.goto 12, 3) := by decide +kernel
theorem dX5_wants_68 : decode cX5_wants 68 = .ok (.iload 5, 2) := by decide +kernel
theorem dX5_wants_70 : decode cX5_wants 70 = .ok (.invokestatic 75, 3) := by decide +kernel
theorem dX5_wants_73 : decode cX5_wants 73 = .ok (.goto 4, 3) := by decide +kernel
theorem dX5_wants_76 : decode cX5_wants 76 = .ok (.iconst 0, 1) := by decide +kernel
theorem dX5_wants_77 : decode cX5_wants 77 = .ok (.iadd, 1) := by decide +kernel
theorem dX5_wants_78 : decode cX5_wants 78 = .ok (.istore 4, 2) := by decide +kernel
theorem dX5_wants_80 : decode cX5_wants 80 = .ok (.iinc 5 1, 3) := by decide +kernel
theorem dX5_wants_83 : decode cX5_wants 83 = .ok (.goto (-41), 3) := by decide +kernel
theorem dX5_wants_86 : decode cX5_wants 86 = .ok (.iload 4, 2) := by decide +kernel
theorem dX5_wants_88 : decode cX5_wants 88 = .ok (.ireturn, 1) := by decide +kernel
theorem dX5_begin_0 : decode cX5_begin 0 = .ok (.iconst 0, 1) := by decide +kernel
theorem dX5_begin_1 : decode cX5_begin 1 = .ok (.istore_n 1, 1) := by decide +kernel
theorem dX5_begin_2 : decode cX5_begin 2 = .ok (.iload_n 1, 1) := by decide +kernel
theorem dX5_begin_3 : decode cX5_begin 3 = .ok (.bipush 17, 2) := by decide +kernel
theorem dX5_begin_5 : decode cX5_begin 5 = .ok (.if_icmp .ge 21, 3) := by decide +kernel
theorem dX5_begin_8 : decode cX5_begin 8 = .ok (.aload_n 0, 1) := by decide +kernel
theorem dX5_begin_9 : decode cX5_begin 9 = .ok (.getfield 25, 3) := by decide +kernel
theorem dX5_begin_12 : decode cX5_begin 12 = .ok (.iload_n 1, 1) := by decide +kernel
theorem dX5_begin_13 : decode cX5_begin 13 = .ok (.aload_n 0, 1) := by decide +kernel
theorem dX5_begin_14 : decode cX5_begin 14 = .ok (.getfield 22, 3) := by decide +kernel
theorem dX5_begin_17 : decode cX5_begin 17 = .ok (.iload_n 1, 1) := by decide +kernel
theorem dX5_begin_18 : decode cX5_begin 18 = .ok (.iaload, 1) := by decide +kernel
theorem dX5_begin_19 : decode cX5_begin 19 = .ok (.iastore, 1) := by decide +kernel
theorem dX5_begin_20 : decode cX5_begin 20 = .ok (.iinc 1 1, 3) := by decide +kernel
theorem dX5_begin_23 : decode cX5_begin 23 = .ok (.goto (-21), 3) := by decide +kernel
theorem dX5_begin_26 : decode cX5_begin 26 = .ok (.return_, 1) := by decide +kernel
theorem dX5_fit_0 : decode cX5_fit 0 = .ok (.aload_n 0, 1) := by decide +kernel
theorem dX5_fit_1 : decode cX5_fit 1 = .ok (.iconst 0, 1) := by decide +kernel
theorem dX5_fit_2 : decode cX5_fit 2 = .ok (.putfield 59, 3) := by decide +kernel
theorem dX5_fit_5 : decode cX5_fit 5 = .ok (.iload_n 1, 1) := by decide +kernel
theorem dX5_fit_6 : decode cX5_fit 6 = .ok (.invokestatic 135, 3) := by decide +kernel
theorem dX5_fit_9 : decode cX5_fit 9 = .ok (.ifCond .eq 5, 3) := by decide +kernel
theorem dX5_fit_12 : decode cX5_fit 12 = .ok (.iconst (-1), 1) := by decide +kernel
theorem dX5_fit_13 : decode cX5_fit 13 = .ok (.ireturn, 1) := by decide +kernel
theorem dX5_fit_14 : decode cX5_fit 14 = .ok (.aload_n 0, 1) := by decide +kernel
theorem dX5_fit_15 : decode cX5_fit 15 = .ok (.getfield 22, 3) := by decide +kernel
theorem dX5_fit_18 : decode cX5_fit 18 = .ok (.iload_n 1, 1) := by decide +kernel
theorem dX5_fit_19 : decode cX5_fit 19 = .ok (.iaload, 1) := by decide +kernel
theorem dX5_fit_20 : decode cX5_fit 20 = .ok (.ifCond .le 6, 3) := by decide +kernel
theorem dX5_fit_23 : decode cX5_fit 23 = .ok (.bipush (-4), 2) := by decide +kernel
theorem dX5_fit_25 : decode cX5_fit 25 = .ok (.ireturn, 1) := by decide +kernel
theorem dX5_fit_26 : decode cX5_fit 26 = .ok (.iconst 0, 1) := by decide +kernel
theorem dX5_fit_27 : decode cX5_fit 27 = .ok (.istore_n 2, 1) := by decide +kernel
theorem dX5_fit_28 : decode cX5_fit 28 = .ok (.iload_n 2, 1) := by decide +kernel
theorem dX5_fit_29 : decode cX5_fit 29 = .ok (.iconst 4, 1) := by decide +kernel
theorem dX5_fit_30 : decode cX5_fit 30 = .ok (.if_icmp .ge 41, 3) := by decide +kernel
theorem dX5_fit_33 : decode cX5_fit 33 = .ok (.aload_n 0, 1) := by decide +kernel
theorem dX5_fit_34 : decode cX5_fit 34 = .ok (.aload_n 0, 1) := by decide +kernel
theorem dX5_fit_35 : decode cX5_fit 35 = .ok (.getfield 22, 3) := by decide +kernel
theorem dX5_fit_38 : decode cX5_fit 38 = .ok (.iload_n 1, 1) := by decide +kernel
theorem dX5_fit_39 : decode cX5_fit 39 = .ok (.iload_n 2, 1) := by decide +kernel
theorem dX5_fit_40 : decode cX5_fit 40 = .ok (.invokevirtual 181, 3) := by decide +kernel
theorem dX5_fit_43 : decode cX5_fit 43 = .ok (.ifCond .eq 22, 3) := by decide +kernel
theorem dX5_fit_46 : decode cX5_fit 46 = .ok (.aload_n 0, 1) := by decide +kernel
theorem dX5_fit_47 : decode cX5_fit 47 = .ok (.invokevirtual 209, 3) := by decide +kernel
theorem dX5_fit_50 : decode cX5_fit 50 = .ok (.aload_n 0, 1) := by decide +kernel
theorem dX5_fit_51 : decode cX5_fit 51 = .ok (.aload_n 0, 1) := by decide +kernel
theorem dX5_fit_52 : decode cX5_fit 52 = .ok (.getfield 25, 3) := by decide +kernel
theorem dX5_fit_55 : decode cX5_fit 55 = .ok (.iload_n 1, 1) := by decide +kernel
theorem dX5_fit_56 : decode cX5_fit 56 = .ok (.iload_n 2, 1) := by decide +kernel
theorem dX5_fit_57 : decode cX5_fit 57 = .ok (.invokevirtual 188, 3) := by decide +kernel
theorem dX5_fit_60 : decode cX5_fit 60 = .ok (.ifCond .ne 5, 3) := by decide +kernel
theorem dX5_fit_63 : decode cX5_fit 63 = .ok (.iload_n 2, 1) := by decide +kernel
theorem dX5_fit_64 : decode cX5_fit 64 = .ok (.ireturn, 1) := by decide +kernel
theorem dX5_fit_65 : decode cX5_fit 65 = .ok (.iinc 2 1, 3) := by decide +kernel
theorem dX5_fit_68 : decode cX5_fit 68 = .ok (.goto (-40), 3) := by decide +kernel
theorem dX5_fit_71 : decode cX5_fit 71 = .ok (.bipush (-9), 2) := by decide +kernel
theorem dX5_fit_73 : decode cX5_fit 73 = .ok (.ireturn, 1) := by decide +kernel
theorem dX5_longPower_0 : decode cX5_longPower 0 = .ok (.lconst 1, 1) := by decide +kernel
theorem dX5_longPower_1 : decode cX5_longPower 1 = .ok (.lstore_n 3, 1) := by decide +kernel
theorem dX5_longPower_2 : decode cX5_longPower 2 = .ok (.iconst 0, 1) := by decide +kernel
theorem dX5_longPower_3 : decode cX5_longPower 3 = .ok (.istore 5, 2) := by decide +kernel
theorem dX5_longPower_5 : decode cX5_longPower 5 = .ok (.iload 5, 2) := by decide +kernel
theorem dX5_longPower_7 : decode cX5_longPower 7 = .ok (.iload_n 2, 1) := by decide +kernel
theorem dX5_longPower_8 : decode cX5_longPower 8 = .ok (.if_icmp .ge 13, 3) := by decide +kernel
theorem dX5_longPower_11 : decode cX5_longPower 11 = .ok (.lload_n 3, 1) := by decide +kernel
theorem dX5_longPower_12 : decode cX5_longPower 12 = .ok (.lload_n 0, 1) := by decide +kernel
theorem dX5_longPower_13 : decode cX5_longPower 13 = .ok (.lmul, 1) := by decide +kernel
theorem dX5_longPower_14 : decode cX5_longPower 14 = .ok (.lstore_n 3, 1) := by decide +kernel
theorem dX5_longPower_15 : decode cX5_longPower 15 = .ok (.iinc 5 1, 3) := by decide +kernel
theorem dX5_longPower_18 : decode cX5_longPower 18 = .ok (.goto (-13), 3) := by decide +kernel
theorem dX5_longPower_21 : decode cX5_longPower 21 = .ok (.lload_n 3, 1) := by decide +kernel
theorem dX5_longPower_22 : decode cX5_longPower 22 = .ok (.lreturn, 1) := by decide +kernel
theorem dX5_puts_0 : decode cX5_puts 0 = .ok (.iload_n 1, 1) := by decide +kernel
theorem dX5_puts_1 : decode cX5_puts 1 = .ok (.invokestatic 135, 3) := by decide +kernel
theorem dX5_puts_4 : decode cX5_puts 4 = .ok (.ifCond .ne 27, 3) := by decide +kernel
theorem dX5_puts_7 : decode cX5_puts 7 = .ok (.iload_n 2, 1) := by decide +kernel
theorem dX5_puts_8 : decode cX5_puts 8 = .ok (.invokestatic 172, 3) := by decide +kernel
theorem dX5_puts_11 : decode cX5_puts 11 = .ok (.ifCond .ne 20, 3) := by decide +kernel
theorem dX5_puts_14 : decode cX5_puts 14 = .ok (.aload_n 0, 1) := by decide +kernel
theorem dX5_puts_15 : decode cX5_puts 15 = .ok (.aload_n 0, 1) := by decide +kernel
theorem dX5_puts_16 : decode cX5_puts 16 = .ok (.getfield 25, 3) := by decide +kernel
theorem dX5_puts_19 : decode cX5_puts 19 = .ok (.iload_n 1, 1) := by decide +kernel
theorem dX5_puts_20 : decode cX5_puts 20 = .ok (.iload_n 2, 1) := by decide +kernel
theorem dX5_puts_21 : decode cX5_puts 21 = .ok (.invokevirtual 181, 3) := by decide +kernel
theorem dX5_puts_24 : decode cX5_puts 24 = .ok (.ifCond .eq 7, 3) := by decide +kernel
theorem dX5_puts_27 : decode cX5_puts 27 = .ok (.iconst 1, 1) := by decide +kernel
theorem dX5_puts_28 : decode cX5_puts 28 = .ok (.goto 4, 3) := by decide +kernel
theorem dX5_puts_31 : decode cX5_puts 31 = .ok (.iconst 0, 1) := by decide +kernel
theorem dX5_puts_32 : decode cX5_puts 32 = .ok (.istore_n 3, 1) := by decide +kernel
theorem dX5_puts_33 : decode cX5_puts 33 = .ok (.iload_n 3, 1) := by decide +kernel
theorem dX5_puts_34 : decode cX5_puts 34 = .ok (.ifCond .eq 14, 3) := by decide +kernel
theorem dX5_puts_37 : decode cX5_puts 37 = .ok (.aload_n 0, 1) := by decide +kernel
theorem dX5_puts_38 : decode cX5_puts 38 = .ok (.aload_n 0, 1) := by decide +kernel
theorem dX5_puts_39 : decode cX5_puts 39 = .ok (.getfield 25, 3) := by decide +kernel
theorem dX5_puts_42 : decode cX5_puts 42 = .ok (.iload_n 1, 1) := by decide +kernel
theorem dX5_puts_43 : decode cX5_puts 43 = .ok (.iload_n 2, 1) := by decide +kernel
theorem dX5_puts_44 : decode cX5_puts 44 = .ok (.invokevirtual 188, 3) := by decide +kernel
theorem dX5_puts_47 : decode cX5_puts 47 = .ok (.pop, 1) := by decide +kernel
theorem dX5_puts_48 : decode cX5_puts 48 = .ok (.iload_n 3, 1) := by decide +kernel
theorem dX5_puts_49 : decode cX5_puts 49 = .ok (.ireturn, 1) := by decide +kernel
theorem dX5_takes_0 : decode cX5_takes 0 = .ok (.iload_n 1, 1) := by decide +kernel
theorem dX5_takes_1 : decode cX5_takes 1 = .ok (.invokestatic 135, 3) := by decide +kernel
theorem dX5_takes_4 : decode cX5_takes 4 = .ok (.ifCond .ne 27, 3) := by decide +kernel
theorem dX5_takes_7 : decode cX5_takes 7 = .ok (.aload_n 0, 1) := by decide +kernel
theorem dX5_takes_8 : decode cX5_takes 8 = .ok (.getfield 25, 3) := by decide +kernel
theorem dX5_takes_11 : decode cX5_takes 11 = .ok (.iload_n 1, 1) := by decide +kernel
theorem dX5_takes_12 : decode cX5_takes 12 = .ok (.iaload, 1) := by decide +kernel
theorem dX5_takes_13 : decode cX5_takes 13 = .ok (.ifCond .le 18, 3) := by decide +kernel
theorem dX5_takes_16 : decode cX5_takes 16 = .ok (.aload_n 0, 1) := by decide +kernel
theorem dX5_takes_17 : decode cX5_takes 17 = .ok (.getfield 25, 3) := by decide +kernel
theorem dX5_takes_20 : decode cX5_takes 20 = .ok (.iload_n 1, 1) := by decide +kernel
theorem dX5_takes_21 : decode cX5_takes 21 = .ok (.invokestatic 177, 3) := by decide +kernel
theorem dX5_takes_24 : decode cX5_takes 24 = .ok (.ifCond .eq 7, 3) := by decide +kernel
theorem dX5_takes_27 : decode cX5_takes 27 = .ok (.iconst 1, 1) := by decide +kernel
theorem dX5_takes_28 : decode cX5_takes 28 = .ok (.goto 4, 3) := by decide +kernel
theorem dX5_takes_31 : decode cX5_takes 31 = .ok (.iconst 0, 1) := by decide +kernel
theorem dX5_takes_32 : decode cX5_takes 32 = .ok (.istore_n 2, 1) := by decide +kernel
theorem dX5_takes_33 : decode cX5_takes 33 = .ok (.iload_n 2, 1) := by decide +kernel
theorem dX5_takes_34 : decode cX5_takes 34 = .ok (.ifCond .eq 10, 3) := by decide +kernel
theorem dX5_takes_37 : decode cX5_takes 37 = .ok (.aload_n 0, 1) := by decide +kernel
theorem dX5_takes_38 : decode cX5_takes 38 = .ok (.getfield 25, 3) := by decide +kernel
theorem dX5_takes_41 : decode cX5_takes 41 = .ok (.iload_n 1, 1) := by decide +kernel
theorem dX5_takes_42 : decode cX5_takes 42 = .ok (.iconst 0, 1) := by decide +kernel
theorem dX5_takes_43 : decode cX5_takes 43 = .ok (.iastore, 1) := by decide +kernel
theorem dX5_takes_44 : decode cX5_takes 44 = .ok (.iload_n 2, 1) := by decide +kernel
theorem dX5_takes_45 : decode cX5_takes 45 = .ok (.ireturn, 1) := by decide +kernel
theorem dX5_blows_0 : decode cX5_blows 0 = .ok (.iload_n 1, 1) := by decide +kernel
theorem dX5_blows_1 : decode cX5_blows 1 = .ok (.i2l, 1) := by decide +kernel
theorem dX5_blows_2 : decode cX5_blows 2 = .ok (.lconst 0, 1) := by decide +kernel
theorem dX5_blows_3 : decode cX5_blows 3 = .ok (.ldc2_w 69, 3) := by decide +kernel
theorem dX5_blows_6 : decode cX5_blows 6 = .ok (.invokestatic 65, 3) := by decide +kernel
theorem dX5_blows_9 : decode cX5_blows 9 = .ok (.ifCond .eq 11, 3) := by decide +kernel
theorem dX5_blows_12 : decode cX5_blows 12 = .ok (.iload_n 2, 1) := by decide +kernel
theorem dX5_blows_13 : decode cX5_blows 13 = .ok (.ifCond .le 7, 3) := by decide +kernel
theorem dX5_blows_16 : decode cX5_blows 16 = .ok (.iconst 1, 1) := by decide +kernel
theorem dX5_blows_17 : decode cX5_blows 17 = .ok (.goto 4, 3) := by decide +kernel
theorem dX5_blows_20 : decode cX5_blows 20 = .ok (.iconst 0, 1) := by decide +kernel
theorem dX5_blows_21 : decode cX5_blows 21 = .ok (.istore_n 3, 1) := by decide +kernel
theorem dX5_blows_22 : decode cX5_blows 22 = .ok (.iload_n 3, 1) := by decide +kernel
theorem dX5_blows_23 : decode cX5_blows 23 = .ok (.ifCond .eq 14, 3) := by decide +kernel
theorem dX5_blows_26 : decode cX5_blows 26 = .ok (.aload_n 0, 1) := by decide +kernel
theorem dX5_blows_27 : decode cX5_blows 27 = .ok (.aload_n 0, 1) := by decide +kernel
theorem dX5_blows_28 : decode cX5_blows 28 = .ok (.getfield 25, 3) := by decide +kernel
theorem dX5_blows_31 : decode cX5_blows 31 = .ok (.iload_n 1, 1) := by decide +kernel
theorem dX5_blows_32 : decode cX5_blows 32 = .ok (.iload_n 2, 1) := by decide +kernel
theorem dX5_blows_33 : decode cX5_blows 33 = .ok (.invokevirtual 203, 3) := by decide +kernel
theorem dX5_blows_36 : decode cX5_blows 36 = .ok (.pop, 1) := by decide +kernel
theorem dX5_blows_37 : decode cX5_blows 37 = .ok (.iload_n 3, 1) := by decide +kernel
theorem dX5_blows_38 : decode cX5_blows 38 = .ok (.ireturn, 1) := by decide +kernel
theorem dX5_does_0 : decode cX5_does 0 = .ok (.iload_n 1, 1) := by decide +kernel
theorem dX5_does_1 : decode cX5_does 1 = .ok (.sipush 1000, 3) := by decide +kernel
theorem dX5_does_4 : decode cX5_does 4 = .ok (.idiv, 1) := by decide +kernel
theorem dX5_does_5 : decode cX5_does 5 = .ok (.istore_n 2, 1) := by decide +kernel
theorem dX5_does_6 : decode cX5_does 6 = .ok (.iload_n 1, 1) := by decide +kernel
theorem dX5_does_7 : decode cX5_does 7 = .ok (.bipush 10, 2) := by decide +kernel
theorem dX5_does_9 : decode cX5_does 9 = .ok (.idiv, 1) := by decide +kernel
theorem dX5_does_10 : decode cX5_does 10 = .ok (.bipush 100, 2) := by decide +kernel
theorem dX5_does_12 : decode cX5_does 12 = .ok (.irem, 1) := by decide +kernel
theorem dX5_does_13 : decode cX5_does 13 = .ok (.istore_n 3, 1) := by decide +kernel
theorem dX5_does_14 : decode cX5_does 14 = .ok (.iload_n 1, 1) := by decide +kernel
theorem dX5_does_15 : decode cX5_does 15 = .ok (.bipush 10, 2) := by decide +kernel
theorem dX5_does_17 : decode cX5_does 17 = .ok (.irem, 1) := by decide +kernel
theorem dX5_does_18 : decode cX5_does 18 = .ok (.istore 4, 2) := by decide +kernel
theorem dX5_does_20 : decode cX5_does 20 = .ok (.iload_n 2, 1) := by decide +kernel
theorem dX5_does_21 : decode cX5_does 21 = .ok (.tableswitch 93 1 4 #[31, 39, 58, 66], 31) := by decide +kernel
theorem dX5_does_52 : decode cX5_does 52 = .ok (.aload_n 0, 1) := by decide +kernel
theorem dX5_does_53 : decode cX5_does 53 = .ok (.iload_n 3, 1) := by decide +kernel
theorem dX5_does_54 : decode cX5_does 54 = .ok (.iload 4, 2) := by decide +kernel
theorem dX5_does_56 : decode cX5_does 56 = .ok (.invokevirtual 212, 3) := by decide +kernel
theorem dX5_does_59 : decode cX5_does 59 = .ok (.ireturn, 1) := by decide +kernel
theorem dX5_does_60 : decode cX5_does 60 = .ok (.iload 4, 2) := by decide +kernel
theorem dX5_does_62 : decode cX5_does 62 = .ok (.ifCond .ne 15, 3) := by decide +kernel
theorem dX5_does_65 : decode cX5_does 65 = .ok (.aload_n 0, 1) := by decide +kernel
theorem dX5_does_66 : decode cX5_does 66 = .ok (.iload_n 3, 1) := by decide +kernel
theorem dX5_does_67 : decode cX5_does 67 = .ok (.invokevirtual 215, 3) := by decide +kernel
theorem dX5_does_70 : decode cX5_does 70 = .ok (.ifCond .eq 7, 3) := by decide +kernel
theorem dX5_does_73 : decode cX5_does 73 = .ok (.iconst 1, 1) := by decide +kernel
theorem dX5_does_74 : decode cX5_does 74 = .ok (.goto 4, 3) := by decide +kernel
theorem dX5_does_77 : decode cX5_does 77 = .ok (.iconst 0, 1) := by decide +kernel
theorem dX5_does_78 : decode cX5_does 78 = .ok (.ireturn, 1) := by decide +kernel
theorem dX5_does_79 : decode cX5_does 79 = .ok (.aload_n 0, 1) := by decide +kernel
theorem dX5_does_80 : decode cX5_does 80 = .ok (.iload_n 3, 1) := by decide +kernel
theorem dX5_does_81 : decode cX5_does 81 = .ok (.iload 4, 2) := by decide +kernel
theorem dX5_does_83 : decode cX5_does 83 = .ok (.invokevirtual 218, 3) := by decide +kernel
theorem dX5_does_86 : decode cX5_does 86 = .ok (.ireturn, 1) := by decide +kernel
theorem dX5_does_87 : decode cX5_does 87 = .ok (.iload 4, 2) := by decide +kernel
theorem dX5_does_89 : decode cX5_does 89 = .ok (.ifCond .ne 23, 3) := by decide +kernel
theorem dX5_does_92 : decode cX5_does 92 = .ok (.iload_n 3, 1) := by decide +kernel
theorem dX5_does_93 : decode cX5_does 93 = .ok (.invokestatic 135, 3) := by decide +kernel
theorem dX5_does_96 : decode cX5_does 96 = .ok (.ifCond .ne 16, 3) := by decide +kernel
theorem dX5_does_99 : decode cX5_does 99 = .ok (.aload_n 0, 1) := by decide +kernel
theorem dX5_does_100 : decode cX5_does 100 = .ok (.getfield 25, 3) := by decide +kernel
theorem dX5_does_103 : decode cX5_does 103 = .ok (.iload_n 3, 1) := by decide +kernel
theorem dX5_does_104 : decode cX5_does 104 = .ok (.iaload, 1) := by decide +kernel
theorem dX5_does_105 : decode cX5_does 105 = .ok (.ifCond .le 7, 3) := by decide +kernel
theorem dX5_does_108 : decode cX5_does 108 = .ok (.iconst 1, 1) := by decide +kernel
theorem dX5_does_109 : decode cX5_does 109 = .ok (.goto 4, 3) := by decide +kernel
theorem dX5_does_112 : decode cX5_does 112 = .ok (.iconst 0, 1) := by decide +kernel
theorem dX5_does_113 : decode cX5_does 113 = .ok (.ireturn, 1) := by decide +kernel
theorem dX5_does_114 : decode cX5_does 114 = .ok (.iload_n 2, 1) := by decide +kernel
theorem dX5_does_115 : decode cX5_does 115 = .ok (.iconst 5, 1) := by decide +kernel
theorem dX5_does_116 : decode cX5_does 116 = .ok (.if_icmp .ne 26, 3) := by decide +kernel
theorem dX5_does_119 : decode cX5_does 119 = .ok (.iload 4, 2) := by decide +kernel
theorem dX5_does_121 : decode cX5_does 121 = .ok (.ifCond .ne 21, 3) := by decide +kernel
theorem dX5_does_124 : decode cX5_does 124 = .ok (.aload_n 0, 1) := by decide +kernel
theorem dX5_does_125 : decode cX5_does 125 = .ok (.getfield 25, 3) := by decide +kernel
theorem dX5_does_128 : decode cX5_does 128 = .ok (.invokestatic 122, 3) := by decide +kernel
theorem dX5_does_131 : decode cX5_does 131 = .ok (.invokestatic 97, 3) := by decide +kernel
theorem dX5_does_134 : decode cX5_does 134 = .ok (.iload_n 3, 1) := by decide +kernel
theorem dX5_does_135 : decode cX5_does 135 = .ok (.if_icmp .lt 7, 3) := by decide +kernel
theorem dX5_does_138 : decode cX5_does 138 = .ok (.iconst 1, 1) := by decide +kernel
theorem dX5_does_139 : decode cX5_does 139 = .ok (.goto 4, 3) := by decide +kernel
theorem dX5_does_142 : decode cX5_does 142 = .ok (.iconst 0, 1) := by decide +kernel
theorem dX5_does_143 : decode cX5_does 143 = .ok (.ireturn, 1) := by decide +kernel
theorem dX5_judge_0 : decode cX5_judge 0 = .ok (.aload_n 0, 1) := by decide +kernel
theorem dX5_judge_1 : decode cX5_judge 1 = .ok (.iconst 0, 1) := by decide +kernel
theorem dX5_judge_2 : decode cX5_judge 2 = .ok (.putfield 59, 3) := by decide +kernel
theorem dX5_judge_5 : decode cX5_judge 5 = .ok (.iload_n 1, 1) := by decide +kernel
theorem dX5_judge_6 : decode cX5_judge 6 = .ok (.i2l, 1) := by decide +kernel
theorem dX5_judge_7 : decode cX5_judge 7 = .ok (.lconst 1, 1) := by decide +kernel
theorem dX5_judge_8 : decode cX5_judge 8 = .ok (.ldc2_w 175, 3) := by decide +kernel
theorem dX5_judge_11 : decode cX5_judge 11 = .ok (.invokestatic 65, 3) := by decide +kernel
theorem dX5_judge_14 : decode cX5_judge 14 = .ok (.ifCond .eq 20, 3) := by decide +kernel
theorem dX5_judge_17 : decode cX5_judge 17 = .ok (.lload_n 2, 1) := by decide +kernel
theorem dX5_judge_18 : decode cX5_judge 18 = .ok (.lconst 0, 1) := by decide +kernel
theorem dX5_judge_19 : decode cX5_judge 19 = .ok (.ldc2_w 221, 3) := by decide +kernel
theorem dX5_judge_22 : decode cX5_judge 22 = .ok (.iload_n 1, 1) := by decide +kernel
theorem dX5_judge_23 : decode cX5_judge 23 = .ok (.invokestatic 223, 3) := by decide +kernel
theorem dX5_judge_26 : decode cX5_judge 26 = .ok (.lconst 1, 1) := by decide +kernel
theorem dX5_judge_27 : decode cX5_judge 27 = .ok (.lsub, 1) := by decide +kernel
theorem dX5_judge_28 : decode cX5_judge 28 = .ok (.invokestatic 65, 3) := by decide +kernel
theorem dX5_judge_31 : decode cX5_judge 31 = .ok (.ifCond .ne 6, 3) := by decide +kernel
theorem dX5_judge_34 : decode cX5_judge 34 = .ok (.bipush (-2), 2) := by decide +kernel
theorem dX5_judge_36 : decode cX5_judge 36 = .ok (.ireturn, 1) := by decide +kernel
theorem dX5_judge_37 : decode cX5_judge 37 = .ok (.aload_n 0, 1) := by decide +kernel
theorem dX5_judge_38 : decode cX5_judge 38 = .ok (.invokevirtual 209, 3) := by decide +kernel
theorem dX5_judge_41 : decode cX5_judge 41 = .ok (.iconst 0, 1) := by decide +kernel
theorem dX5_judge_42 : decode cX5_judge 42 = .ok (.istore 4, 2) := by decide +kernel
theorem dX5_judge_44 : decode cX5_judge 44 = .ok (.iload 4, 2) := by decide +kernel
theorem dX5_judge_46 : decode cX5_judge 46 = .ok (.iload_n 1, 1) := by decide +kernel
theorem dX5_judge_47 : decode cX5_judge 47 = .ok (.if_icmp .ge 38, 3) := by decide +kernel
theorem dX5_judge_50 : decode cX5_judge 50 = .ok (.aload_n 0, 1) := by decide +kernel
theorem dX5_judge_51 : decode cX5_judge 51 = .ok (.lload_n 2, 1) := by decide +kernel
theorem dX5_judge_52 : decode cX5_judge 52 = .ok (.ldc2_w 221, 3) := by decide +kernel
theorem dX5_judge_55 : decode cX5_judge 55 = .ok (.iload_n 1, 1) := by decide +kernel
theorem dX5_judge_56 : decode cX5_judge 56 = .ok (.iconst 1, 1) := by decide +kernel
theorem dX5_judge_57 : decode cX5_judge 57 = .ok (.isub, 1) := by decide +kernel
theorem dX5_judge_58 : decode cX5_judge 58 = .ok (.iload 4, 2) := by decide +kernel
theorem dX5_judge_60 : decode cX5_judge 60 = .ok (.isub, 1) := by decide +kernel
theorem dX5_judge_61 : decode cX5_judge 61 = .ok (.invokestatic 223, 3) := by decide +kernel
theorem dX5_judge_64 : decode cX5_judge 64 = .ok (.ldiv, 1) := by decide +kernel
theorem dX5_judge_65 : decode cX5_judge 65 = .ok (.ldc2_w 221, 3) := by decide +kernel
theorem dX5_judge_68 : decode cX5_judge 68 = .ok (.lrem, 1) := by decide +kernel
theorem dX5_judge_69 : decode cX5_judge 69 = .ok (.l2i, 1) := by decide +kernel
theorem dX5_judge_70 : decode cX5_judge 70 = .ok (.invokevirtual 227, 3) := by decide +kernel
theorem dX5_judge_73 : decode cX5_judge 73 = .ok (.ifCond .ne 6, 3) := by decide +kernel
theorem dX5_judge_76 : decode cX5_judge 76 = .ok (.iload 4, 2) := by decide +kernel
theorem dX5_judge_78 : decode cX5_judge 78 = .ok (.ireturn, 1) := by decide +kernel
theorem dX5_judge_79 : decode cX5_judge 79 = .ok (.iinc 4 1, 3) := by decide +kernel
theorem dX5_judge_82 : decode cX5_judge 82 = .ok (.goto (-38), 3) := by decide +kernel
theorem dX5_judge_85 : decode cX5_judge 85 = .ok (.bipush (-9), 2) := by decide +kernel
theorem dX5_judge_87 : decode cX5_judge 87 = .ok (.ireturn, 1) := by decide +kernel
theorem dX5_ways_0 : decode cX5_ways 0 = .ok (.iconst 1, 1) := by decide +kernel
theorem dX5_ways_1 : decode cX5_ways 1 = .ok (.istore_n 1, 1) := by decide +kernel
theorem dX5_ways_2 : decode cX5_ways 2 = .ok (.iconst 2, 1) := by decide +kernel
theorem dX5_ways_3 : decode cX5_ways 3 = .ok (.istore_n 2, 1) := by decide +kernel
theorem dX5_ways_4 : decode cX5_ways 4 = .ok (.iload_n 2, 1) := by decide +kernel
theorem dX5_ways_5 : decode cX5_ways 5 = .ok (.iload_n 0, 1) := by decide +kernel
theorem dX5_ways_6 : decode cX5_ways 6 = .ok (.if_icmp .gt 13, 3) := by decide +kernel
theorem dX5_ways_9 : decode cX5_ways 9 = .ok (.iload_n 1, 1) := by decide +kernel
theorem dX5_ways_10 : decode cX5_ways 10 = .ok (.iload_n 2, 1) := by decide +kernel
theorem dX5_ways_11 : decode cX5_ways 11 = .ok (.imul, 1) := by decide +kernel
theorem dX5_ways_12 : decode cX5_ways 12 = .ok (.istore_n 1, 1) := by decide +kernel
theorem dX5_ways_13 : decode cX5_ways 13 = .ok (.iinc 2 1, 3) := by decide +kernel
theorem dX5_ways_16 : decode cX5_ways 16 = .ok (.goto (-12), 3) := by decide +kernel
theorem dX5_ways_19 : decode cX5_ways 19 = .ok (.iload_n 1, 1) := by decide +kernel
theorem dX5_ways_20 : decode cX5_ways 20 = .ok (.ireturn, 1) := by decide +kernel
theorem dX5_divisor_0 : decode cX5_divisor 0 = .ok (.iload_n 0, 1) := by decide +kernel
theorem dX5_divisor_1 : decode cX5_divisor 1 = .ok (.ifCond .ge 8, 3) := by decide +kernel
theorem dX5_divisor_4 : decode cX5_divisor 4 = .ok (.iload_n 0, 1) := by decide +kernel
theorem dX5_divisor_5 : decode cX5_divisor 5 = .ok (.ineg, 1) := by decide +kernel
theorem dX5_divisor_6 : decode cX5_divisor 6 = .ok (.goto 4, 3) := by decide +kernel
theorem dX5_divisor_9 : decode cX5_divisor 9 = .ok (.iload_n 0, 1) := by decide +kernel
theorem dX5_divisor_10 : decode cX5_divisor 10 = .ok (.istore_n 2, 1) := by decide +kernel
theorem dX5_divisor_11 : decode cX5_divisor 11 = .ok (.iload_n 1, 1) := by decide +kernel
theorem dX5_divisor_12 : decode cX5_divisor 12 = .ok (.istore_n 3, 1) := by decide +kernel
theorem dX5_divisor_13 : decode cX5_divisor 13 = .ok (.iload_n 3, 1) := by decide +kernel
theorem dX5_divisor_14 : decode cX5_divisor 14 = .ok (.ifCond .eq 16, 3) := by decide +kernel
theorem dX5_divisor_17 : decode cX5_divisor 17 = .ok (.iload_n 2, 1) := by decide +kernel
theorem dX5_divisor_18 : decode cX5_divisor 18 = .ok (.iload_n 3, 1) := by decide +kernel
theorem dX5_divisor_19 : decode cX5_divisor 19 = .ok (.irem, 1) := by decide +kernel
theorem dX5_divisor_20 : decode cX5_divisor 20 = .ok (.istore 4, 2) := by decide +kernel
theorem dX5_divisor_22 : decode cX5_divisor 22 = .ok (.iload_n 3, 1) := by decide +kernel
theorem dX5_divisor_23 : decode cX5_divisor 23 = .ok (.istore_n 2, 1) := by decide +kernel
theorem dX5_divisor_24 : decode cX5_divisor 24 = .ok (.iload 4, 2) := by decide +kernel
theorem dX5_divisor_26 : decode cX5_divisor 26 = .ok (.istore_n 3, 1) := by decide +kernel
theorem dX5_divisor_27 : decode cX5_divisor 27 = .ok (.goto (-14), 3) := by decide +kernel
theorem dX5_divisor_30 : decode cX5_divisor 30 = .ok (.iload_n 2, 1) := by decide +kernel
theorem dX5_divisor_31 : decode cX5_divisor 31 = .ok (.ireturn, 1) := by decide +kernel
theorem dX5_fraction_0 : decode cX5_fraction 0 = .ok (.iload_n 0, 1) := by decide +kernel
theorem dX5_fraction_1 : decode cX5_fraction 1 = .ok (.iload_n 1, 1) := by decide +kernel
theorem dX5_fraction_2 : decode cX5_fraction 2 = .ok (.invokestatic 230, 3) := by decide +kernel
theorem dX5_fraction_5 : decode cX5_fraction 5 = .ok (.istore_n 3, 1) := by decide +kernel
theorem dX5_fraction_6 : decode cX5_fraction 6 = .ok (.iload_n 2, 1) := by decide +kernel
theorem dX5_fraction_7 : decode cX5_fraction 7 = .ok (.ifCond .eq 9, 3) := by decide +kernel
theorem dX5_fraction_10 : decode cX5_fraction 10 = .ok (.iload_n 0, 1) := by decide +kernel
theorem dX5_fraction_11 : decode cX5_fraction 11 = .ok (.iload_n 3, 1) := by decide +kernel
theorem dX5_fraction_12 : decode cX5_fraction 12 = .ok (.idiv, 1) := by decide +kernel
theorem dX5_fraction_13 : decode cX5_fraction 13 = .ok (.goto 6, 3) := by decide +kernel
theorem dX5_fraction_16 : decode cX5_fraction 16 = .ok (.iload_n 1, 1) := by decide +kernel
theorem dX5_fraction_17 : decode cX5_fraction 17 = .ok (.iload_n 3, 1) := by decide +kernel
theorem dX5_fraction_18 : decode cX5_fraction 18 = .ok (.idiv, 1) := by decide +kernel
theorem dX5_fraction_19 : decode cX5_fraction 19 = .ok (.ireturn, 1) := by decide +kernel
theorem dX5_share_0 : decode cX5_share 0 = .ok (.aload_n 0, 1) := by decide +kernel
theorem dX5_share_1 : decode cX5_share 1 = .ok (.iconst 0, 1) := by decide +kernel
theorem dX5_share_2 : decode cX5_share 2 = .ok (.putfield 59, 3) := by decide +kernel
theorem dX5_share_5 : decode cX5_share 5 = .ok (.iload_n 1, 1) := by decide +kernel
theorem dX5_share_6 : decode cX5_share 6 = .ok (.i2l, 1) := by decide +kernel
theorem dX5_share_7 : decode cX5_share 7 = .ok (.lconst 0, 1) := by decide +kernel
theorem dX5_share_8 : decode cX5_share 8 = .ok (.ldc2_w 69, 3) := by decide +kernel
theorem dX5_share_11 : decode cX5_share 11 = .ok (.invokestatic 65, 3) := by decide +kernel
theorem dX5_share_14 : decode cX5_share 14 = .ok (.ifCond .ne 5, 3) := by decide +kernel
theorem dX5_share_17 : decode cX5_share 17 = .ok (.iconst (-1), 1) := by decide +kernel
theorem dX5_share_18 : decode cX5_share 18 = .ok (.ireturn, 1) := by decide +kernel
theorem dX5_share_19 : decode cX5_share 19 = .ok (.iconst 0, 1) := by decide +kernel
theorem dX5_share_20 : decode cX5_share 20 = .ok (.istore_n 3, 1) := by decide +kernel
theorem dX5_share_21 : decode cX5_share 21 = .ok (.iload_n 3, 1) := by decide +kernel
theorem dX5_share_22 : decode cX5_share 22 = .ok (.bipush 16, 2) := by decide +kernel
theorem dX5_share_24 : decode cX5_share 24 = .ok (.if_icmp .ge 45, 3) := by decide +kernel
theorem dX5_share_27 : decode cX5_share 27 = .ok (.aload_n 0, 1) := by decide +kernel
theorem dX5_share_28 : decode cX5_share 28 = .ok (.getfield 22, 3) := by decide +kernel
theorem dX5_share_31 : decode cX5_share 31 = .ok (.iload_n 3, 1) := by decide +kernel
theorem dX5_share_32 : decode cX5_share 32 = .ok (.iconst (-1), 1) := by decide +kernel
theorem dX5_share_33 : decode cX5_share 33 = .ok (.ixor, 1) := by decide +kernel
theorem dX5_share_34 : decode cX5_share 34 = .ok (.bipush 15, 2) := by decide +kernel
theorem dX5_share_36 : decode cX5_share 36 = .ok (.iand, 1) := by decide +kernel
theorem dX5_share_37 : decode cX5_share 37 = .ok (.invokestatic 94, 3) := by decide +kernel
theorem dX5_share_40 : decode cX5_share 40 = .ok (.istore 4, 2) := by decide +kernel
theorem dX5_share_42 : decode cX5_share 42 = .ok (.aload_n 0, 1) := by decide +kernel
theorem dX5_share_43 : decode cX5_share 43 = .ok (.getfield 56, 3) := by decide +kernel
theorem dX5_share_46 : decode cX5_share 46 = .ok (.iload_n 3, 1) := by decide +kernel
theorem dX5_share_47 : decode cX5_share 47 = .ok (.aload_n 0, 1) := by decide +kernel
theorem dX5_share_48 : decode cX5_share 48 = .ok (.getfield 22, 3) := by decide +kernel
theorem dX5_share_51 : decode cX5_share 51 = .ok (.invokestatic 122, 3) := by decide +kernel
theorem dX5_share_54 : decode cX5_share 54 = .ok (.iload 4, 2) := by decide +kernel
theorem dX5_share_56 : decode cX5_share 56 = .ok (.iconst (-1), 1) := by decide +kernel
theorem dX5_share_57 : decode cX5_share 57 = .ok (.ixor, 1) := by decide +kernel
theorem dX5_share_58 : decode cX5_share 58 = .ok (.iand, 1) := by decide +kernel
theorem dX5_share_59 : decode cX5_share 59 = .ok (.invokestatic 97, 3) := by decide +kernel
theorem dX5_share_62 : decode cX5_share 62 = .ok (.iastore, 1) := by decide +kernel
theorem dX5_share_63 : decode cX5_share 63 = .ok (.iinc 3 1, 3) := by decide +kernel
theorem dX5_share_66 : decode cX5_share 66 = .ok (.goto (-45), 3) := by decide +kernel
theorem dX5_share_69 : decode cX5_share 69 = .ok (.iconst 0, 1) := by decide +kernel
theorem dX5_share_70 : decode cX5_share 70 = .ok (.istore_n 3, 1) := by decide +kernel
theorem dX5_share_71 : decode cX5_share 71 = .ok (.iconst 0, 1) := by decide +kernel
theorem dX5_share_72 : decode cX5_share 72 = .ok (.istore 4, 2) := by decide +kernel
theorem dX5_share_74 : decode cX5_share 74 = .ok (.iload 4, 2) := by decide +kernel
theorem dX5_share_76 : decode cX5_share 76 = .ok (.bipush 16, 2) := by decide +kernel
theorem dX5_share_78 : decode cX5_share 78 = .ok (.if_icmp .ge 61, 3) := by decide +kernel
theorem dX5_share_81 : decode cX5_share 81 = .ok (.iload 4, 2) := by decide +kernel
theorem dX5_share_83 : decode cX5_share 83 = .ok (.iload_n 1, 1) := by decide +kernel
theorem dX5_share_84 : decode cX5_share 84 = .ok (.invokestatic 90, 3) := by decide +kernel
theorem dX5_share_87 : decode cX5_share 87 = .ok (.ifCond .ne 46, 3) := by decide +kernel
theorem dX5_share_90 : decode cX5_share 90 = .ok (.iload 4, 2) := by decide +kernel
theorem dX5_share_92 : decode cX5_share 92 = .ok (.invokestatic 97, 3) := by decide +kernel
theorem dX5_share_95 : decode cX5_share 95 = .ok (.istore 5, 2) := by decide +kernel
theorem dX5_share_97 : decode cX5_share 97 = .ok (.iload_n 3, 1) := by decide +kernel
theorem dX5_share_98 : decode cX5_share 98 = .ok (.iload 5, 2) := by decide +kernel
theorem dX5_share_100 : decode cX5_share 100 = .ok (.invokestatic 233, 3) := by decide +kernel
theorem dX5_share_103 : decode cX5_share 103 = .ok (.iconst 3, 1) := by decide +kernel
theorem dX5_share_104 : decode cX5_share 104 = .ok (.iload 5, 2) := by decide +kernel
theorem dX5_share_106 : decode cX5_share 106 = .ok (.isub, 1) := by decide +kernel
theorem dX5_share_107 : decode cX5_share 107 = .ok (.invokestatic 233, 3) := by decide +kernel
theorem dX5_share_110 : decode cX5_share 110 = .ok (.imul, 1) := by decide +kernel
theorem dX5_share_111 : decode cX5_share 111 = .ok (.aload_n 0, 1) := by decide +kernel
theorem dX5_share_112 : decode cX5_share 112 = .ok (.getfield 56, 3) := by decide +kernel
theorem dX5_share_115 : decode cX5_share 115 = .ok (.iload 4, 2) := by decide +kernel
theorem dX5_share_117 : decode cX5_share 117 = .ok (.iconst 1, 1) := by decide +kernel
theorem dX5_share_118 : decode cX5_share 118 = .ok (.iload_n 1, 1) := by decide +kernel
theorem dX5_share_119 : decode cX5_share 119 = .ok (.ishl, 1) := by decide +kernel
theorem dX5_share_120 : decode cX5_share 120 = .ok (.ior, 1) := by decide +kernel
theorem dX5_share_121 : decode cX5_share 121 = .ok (.iaload, 1) := by decide +kernel
theorem dX5_share_122 : decode cX5_share 122 = .ok (.aload_n 0, 1) := by decide +kernel
theorem dX5_share_123 : decode cX5_share 123 = .ok (.getfield 56, 3) := by decide +kernel
theorem dX5_share_126 : decode cX5_share 126 = .ok (.iload 4, 2) := by decide +kernel
theorem dX5_share_128 : decode cX5_share 128 = .ok (.iaload, 1) := by decide +kernel
theorem dX5_share_129 : decode cX5_share 129 = .ok (.isub, 1) := by decide +kernel
theorem dX5_share_130 : decode cX5_share 130 = .ok (.imul, 1) := by decide +kernel
theorem dX5_share_131 : decode cX5_share 131 = .ok (.iadd, 1) := by decide +kernel
theorem dX5_share_132 : decode cX5_share 132 = .ok (.istore_n 3, 1) := by decide +kernel
theorem dX5_share_133 : decode cX5_share 133 = .ok (.iinc 4 1, 3) := by decide +kernel
theorem dX5_share_136 : decode cX5_share 136 = .ok (.goto (-62), 3) := by decide +kernel
theorem dX5_share_139 : decode cX5_share 139 = .ok (.iload_n 3, 1) := by decide +kernel
theorem dX5_share_140 : decode cX5_share 140 = .ok (.iconst 4, 1) := by decide +kernel
theorem dX5_share_141 : decode cX5_share 141 = .ok (.invokestatic 233, 3) := by decide +kernel
theorem dX5_share_144 : decode cX5_share 144 = .ok (.iload_n 2, 1) := by decide +kernel
theorem dX5_share_145 : decode cX5_share 145 = .ok (.invokestatic 236, 3) := by decide +kernel
theorem dX5_share_148 : decode cX5_share 148 = .ok (.ireturn, 1) := by decide +kernel
theorem dX5_hold_0 : decode cX5_hold 0 = .ok (.aload_n 0, 1) := by decide +kernel
theorem dX5_hold_1 : decode cX5_hold 1 = .ok (.iconst 0, 1) := by decide +kernel
theorem dX5_hold_2 : decode cX5_hold 2 = .ok (.putfield 59, 3) := by decide +kernel
theorem dX5_hold_5 : decode cX5_hold 5 = .ok (.iload_n 1, 1) := by decide +kernel
theorem dX5_hold_6 : decode cX5_hold 6 = .ok (.i2l, 1) := by decide +kernel
theorem dX5_hold_7 : decode cX5_hold 7 = .ok (.lconst 0, 1) := by decide +kernel
theorem dX5_hold_8 : decode cX5_hold 8 = .ok (.lconst 1, 1) := by decide +kernel
theorem dX5_hold_9 : decode cX5_hold 9 = .ok (.invokestatic 65, 3) := by decide +kernel
theorem dX5_hold_12 : decode cX5_hold 12 = .ok (.ifCond .eq 38, 3) := by decide +kernel
theorem dX5_hold_15 : decode cX5_hold 15 = .ok (.iload_n 2, 1) := by decide +kernel
theorem dX5_hold_16 : decode cX5_hold 16 = .ok (.i2l, 1) := by decide +kernel
theorem dX5_hold_17 : decode cX5_hold 17 = .ok (.lconst 1, 1) := by decide +kernel
theorem dX5_hold_18 : decode cX5_hold 18 = .ok (.ldc2_w 201, 3) := by decide +kernel
theorem dX5_hold_21 : decode cX5_hold 21 = .ok (.invokestatic 65, 3) := by decide +kernel
theorem dX5_hold_24 : decode cX5_hold 24 = .ok (.ifCond .eq 26, 3) := by decide +kernel
theorem dX5_hold_27 : decode cX5_hold 27 = .ok (.iload_n 3, 1) := by decide +kernel
theorem dX5_hold_28 : decode cX5_hold 28 = .ok (.i2l, 1) := by decide +kernel
theorem dX5_hold_29 : decode cX5_hold 29 = .ok (.lconst 0, 1) := by decide +kernel
theorem dX5_hold_30 : decode cX5_hold 30 = .ok (.ldc2_w 201, 3) := by decide +kernel
theorem dX5_hold_33 : decode cX5_hold 33 = .ok (.invokestatic 65, 3) := by decide +kernel
theorem dX5_hold_36 : decode cX5_hold 36 = .ok (.ifCond .eq 14, 3) := by decide +kernel
theorem dX5_hold_39 : decode cX5_hold 39 = .ok (.iload 4, 2) := by decide +kernel
theorem dX5_hold_41 : decode cX5_hold 41 = .ok (.i2l, 1) := by decide +kernel
theorem dX5_hold_42 : decode cX5_hold 42 = .ok (.lconst 0, 1) := by decide +kernel
theorem dX5_hold_43 : decode cX5_hold 43 = .ok (.lconst 1, 1) := by decide +kernel
theorem dX5_hold_44 : decode cX5_hold 44 = .ok (.invokestatic 65, 3) := by decide +kernel
theorem dX5_hold_47 : decode cX5_hold 47 = .ok (.ifCond .ne 6, 3) := by decide +kernel
theorem dX5_hold_50 : decode cX5_hold 50 = .ok (.bipush (-2), 2) := by decide +kernel
theorem dX5_hold_52 : decode cX5_hold 52 = .ok (.ireturn, 1) := by decide +kernel
theorem dX5_hold_53 : decode cX5_hold 53 = .ok (.aload_n 0, 1) := by decide +kernel
theorem dX5_hold_54 : decode cX5_hold 54 = .ok (.getfield 169, 3) := by decide +kernel
theorem dX5_hold_57 : decode cX5_hold 57 = .ok (.bipush 6, 2) := by decide +kernel
theorem dX5_hold_59 : decode cX5_hold 59 = .ok (.if_icmp .ne 6, 3) := by decide +kernel
theorem dX5_hold_62 : decode cX5_hold 62 = .ok (.bipush (-4), 2) := by decide +kernel
theorem dX5_hold_64 : decode cX5_hold 64 = .ok (.ireturn, 1) := by decide +kernel
theorem dX5_hold_65 : decode cX5_hold 65 = .ok (.aload_n 0, 1) := by decide +kernel
theorem dX5_hold_66 : decode cX5_hold 66 = .ok (.getfield 41, 3) := by decide +kernel
theorem dX5_hold_69 : decode cX5_hold 69 = .ok (.aload_n 0, 1) := by decide +kernel
theorem dX5_hold_70 : decode cX5_hold 70 = .ok (.getfield 169, 3) := by decide +kernel
theorem dX5_hold_73 : decode cX5_hold 73 = .ok (.iload_n 1, 1) := by decide +kernel
theorem dX5_hold_74 : decode cX5_hold 74 = .ok (.iastore, 1) := by decide +kernel
theorem dX5_hold_75 : decode cX5_hold 75 = .ok (.aload_n 0, 1) := by decide +kernel
theorem dX5_hold_76 : decode cX5_hold 76 = .ok (.getfield 44, 3) := by decide +kernel
theorem dX5_hold_79 : decode cX5_hold 79 = .ok (.aload_n 0, 1) := by decide +kernel
theorem dX5_hold_80 : decode cX5_hold 80 = .ok (.getfield 169, 3) := by decide +kernel
theorem dX5_hold_83 : decode cX5_hold 83 = .ok (.iload_n 2, 1) := by decide +kernel
theorem dX5_hold_84 : decode cX5_hold 84 = .ok (.iastore, 1) := by decide +kernel
theorem dX5_hold_85 : decode cX5_hold 85 = .ok (.aload_n 0, 1) := by decide +kernel
theorem dX5_hold_86 : decode cX5_hold 86 = .ok (.getfield 47, 3) := by decide +kernel
theorem dX5_hold_89 : decode cX5_hold 89 = .ok (.aload_n 0, 1) := by decide +kernel
theorem dX5_hold_90 : decode cX5_hold 90 = .ok (.getfield 169, 3) := by decide +kernel
theorem dX5_hold_93 : decode cX5_hold 93 = .ok (.iload_n 3, 1) := by decide +kernel
theorem dX5_hold_94 : decode cX5_hold 94 = .ok (.iastore, 1) := by decide +kernel
theorem dX5_hold_95 : decode cX5_hold 95 = .ok (.aload_n 0, 1) := by decide +kernel
theorem dX5_hold_96 : decode cX5_hold 96 = .ok (.getfield 50, 3) := by decide +kernel
theorem dX5_hold_99 : decode cX5_hold 99 = .ok (.aload_n 0, 1) := by decide +kernel
theorem dX5_hold_100 : decode cX5_hold 100 = .ok (.getfield 169, 3) := by decide +kernel
theorem dX5_hold_103 : decode cX5_hold 103 = .ok (.iload 4, 2) := by decide +kernel
theorem dX5_hold_105 : decode cX5_hold 105 = .ok (.iastore, 1) := by decide +kernel
theorem dX5_hold_106 : decode cX5_hold 106 = .ok (.aload_n 0, 1) := by decide +kernel
theorem dX5_hold_107 : decode cX5_hold 107 = .ok (.dup, 1) := by decide +kernel
theorem dX5_hold_108 : decode cX5_hold 108 = .ok (.getfield 169, 3) := by decide +kernel
theorem dX5_hold_111 : decode cX5_hold 111 = .ok (.iconst 1, 1) := by decide +kernel
theorem dX5_hold_112 : decode cX5_hold 112 = .ok (.iadd, 1) := by decide +kernel
theorem dX5_hold_113 : decode cX5_hold 113 = .ok (.putfield 169, 3) := by decide +kernel
theorem dX5_hold_116 : decode cX5_hold 116 = .ok (.aload_n 0, 1) := by decide +kernel
theorem dX5_hold_117 : decode cX5_hold 117 = .ok (.getfield 169, 3) := by decide +kernel
theorem dX5_hold_120 : decode cX5_hold 120 = .ok (.ireturn, 1) := by decide +kernel
theorem dX5_unhold_0 : decode cX5_unhold 0 = .ok (.aload_n 0, 1) := by decide +kernel
theorem dX5_unhold_1 : decode cX5_unhold 1 = .ok (.iconst 0, 1) := by decide +kernel
theorem dX5_unhold_2 : decode cX5_unhold 2 = .ok (.putfield 59, 3) := by decide +kernel
theorem dX5_unhold_5 : decode cX5_unhold 5 = .ok (.aload_n 0, 1) := by decide +kernel
theorem dX5_unhold_6 : decode cX5_unhold 6 = .ok (.getfield 169, 3) := by decide +kernel
theorem dX5_unhold_9 : decode cX5_unhold 9 = .ok (.istore_n 1, 1) := by decide +kernel
theorem dX5_unhold_10 : decode cX5_unhold 10 = .ok (.aload_n 0, 1) := by decide +kernel
theorem dX5_unhold_11 : decode cX5_unhold 11 = .ok (.iconst 0, 1) := by decide +kernel
theorem dX5_unhold_12 : decode cX5_unhold 12 = .ok (.putfield 169, 3) := by decide +kernel
theorem dX5_unhold_15 : decode cX5_unhold 15 = .ok (.iload_n 1, 1) := by decide +kernel
theorem dX5_unhold_16 : decode cX5_unhold 16 = .ok (.ireturn, 1) := by decide +kernel
theorem dX5_tents_0 : decode cX5_tents 0 = .ok (.aload_n 0, 1) := by decide +kernel
theorem dX5_tents_1 : decode cX5_tents 1 = .ok (.iconst 0, 1) := by decide +kernel
theorem dX5_tents_2 : decode cX5_tents 2 = .ok (.putfield 59, 3) := by decide +kernel
theorem dX5_tents_5 : decode cX5_tents 5 = .ok (.iload_n 1, 1) := by decide +kernel
theorem dX5_tents_6 : decode cX5_tents 6 = .ok (.i2l, 1) := by decide +kernel
theorem dX5_tents_7 : decode cX5_tents 7 = .ok (.lconst 0, 1) := by decide +kernel
theorem dX5_tents_8 : decode cX5_tents 8 = .ok (.lconst 1, 1) := by decide +kernel
theorem dX5_tents_9 : decode cX5_tents 9 = .ok (.invokestatic 65, 3) := by decide +kernel
theorem dX5_tents_12 : decode cX5_tents 12 = .ok (.ifCond .ne 6, 3) := by decide +kernel
theorem dX5_tents_15 : decode cX5_tents 15 = .ok (.bipush (-2), 2) := by decide +kernel
theorem dX5_tents_17 : decode cX5_tents 17 = .ok (.ireturn, 1) := by decide +kernel
theorem dX5_tents_18 : decode cX5_tents 18 = .ok (.aload_n 0, 1) := by decide +kernel
theorem dX5_tents_19 : decode cX5_tents 19 = .ok (.iconst 0, 1) := by decide +kernel
theorem dX5_tents_20 : decode cX5_tents 20 = .ok (.putfield 240, 3) := by decide +kernel
theorem dX5_tents_23 : decode cX5_tents 23 = .ok (.aload_n 0, 1) := by decide +kernel
theorem dX5_tents_24 : decode cX5_tents 24 = .ok (.bipush (-9), 2) := by decide +kernel
theorem dX5_tents_26 : decode cX5_tents 26 = .ok (.putfield 243, 3) := by decide +kernel
theorem dX5_tents_29 : decode cX5_tents 29 = .ok (.iconst 0, 1) := by decide +kernel
theorem dX5_tents_30 : decode cX5_tents 30 = .ok (.istore_n 2, 1) := by decide +kernel
theorem dX5_tents_31 : decode cX5_tents 31 = .ok (.iload_n 2, 1) := by decide +kernel
theorem dX5_tents_32 : decode cX5_tents 32 = .ok (.bipush 16, 2) := by decide +kernel
theorem dX5_tents_34 : decode cX5_tents 34 = .ok (.if_icmp .ge 174, 3) := by decide +kernel
theorem dX5_tents_37 : decode cX5_tents 37 = .ok (.iconst 1, 1) := by decide +kernel
end
section
theorem dX5_tents_38 : decode cX5_tents 38 = .ok (.istore_n 3, 1) := by decide +kernel
theorem dX5_tents_39 : decode cX5_tents 39 = .ok (.iconst 0, 1) := by decide +kernel
theorem dX5_tents_40 : decode cX5_tents 40 = .ok (.istore 4, 2) := by decide +kernel
theorem dX5_tents_42 : decode cX5_tents 42 = .ok (.iload 4, 2) := by decide +kernel
theorem dX5_tents_44 : decode cX5_tents 44 = .ok (.aload_n 0, 1) := by decide +kernel
theorem dX5_tents_45 : decode cX5_tents 45 = .ok (.getfield 169, 3) := by decide +kernel
theorem dX5_tents_48 : decode cX5_tents 48 = .ok (.if_icmp .ge 104, 3) := by decide +kernel
theorem dX5_tents_51 : decode cX5_tents 51 = .ok (.aload_n 0, 1) := by decide +kernel
theorem dX5_tents_52 : decode cX5_tents 52 = .ok (.getfield 41, 3) := by decide +kernel
theorem dX5_tents_55 : decode cX5_tents 55 = .ok (.iload 4, 2) := by decide +kernel
theorem dX5_tents_57 : decode cX5_tents 57 = .ok (.iaload, 1) := by decide +kernel
theorem dX5_tents_58 : decode cX5_tents 58 = .ok (.ifCond .ne 9, 3) := by decide +kernel
theorem dX5_tents_61 : decode cX5_tents 61 = .ok (.iload_n 2, 1) := by decide +kernel
theorem dX5_tents_62 : decode cX5_tents 62 = .ok (.iconst 4, 1) := by decide +kernel
theorem dX5_tents_63 : decode cX5_tents 63 = .ok (.idiv, 1) := by decide +kernel
theorem dX5_tents_64 : decode cX5_tents 64 = .ok (.goto 6, 3) := by decide +kernel
theorem dX5_tents_67 : decode cX5_tents 67 = .ok (.iload_n 2, 1) := by decide +kernel
theorem dX5_tents_68 : decode cX5_tents 68 = .ok (.iconst 4, 1) := by decide +kernel
theorem dX5_tents_69 : decode cX5_tents 69 = .ok (.irem, 1) := by decide +kernel
theorem dX5_tents_70 : decode cX5_tents 70 = .ok (.istore 5, 2) := by decide +kernel
theorem dX5_tents_72 : decode cX5_tents 72 = .ok (.iconst 0, 1) := by decide +kernel
theorem dX5_tents_73 : decode cX5_tents 73 = .ok (.iload 5, 2) := by decide +kernel
theorem dX5_tents_75 : decode cX5_tents 75 = .ok (.invokestatic 83, 3) := by decide +kernel
theorem dX5_tents_78 : decode cX5_tents 78 = .ok (.bipush 8, 2) := by decide +kernel
theorem dX5_tents_80 : decode cX5_tents 80 = .ok (.aload_n 0, 1) := by decide +kernel
theorem dX5_tents_81 : decode cX5_tents 81 = .ok (.getfield 47, 3) := by decide +kernel
theorem dX5_tents_84 : decode cX5_tents 84 = .ok (.iload 4, 2) := by decide +kernel
theorem dX5_tents_86 : decode cX5_tents 86 = .ok (.iaload, 1) := by decide +kernel
theorem dX5_tents_87 : decode cX5_tents 87 = .ok (.imul, 1) := by decide +kernel
theorem dX5_tents_88 : decode cX5_tents 88 = .ok (.iadd, 1) := by decide +kernel
theorem dX5_tents_89 : decode cX5_tents 89 = .ok (.iload 5, 2) := by decide +kernel
theorem dX5_tents_91 : decode cX5_tents 91 = .ok (.invokestatic 192, 3) := by decide +kernel
theorem dX5_tents_94 : decode cX5_tents 94 = .ok (.iadd, 1) := by decide +kernel
theorem dX5_tents_95 : decode cX5_tents 95 = .ok (.bipush 8, 2) := by decide +kernel
theorem dX5_tents_97 : decode cX5_tents 97 = .ok (.aload_n 0, 1) := by decide +kernel
theorem dX5_tents_98 : decode cX5_tents 98 = .ok (.getfield 44, 3) := by decide +kernel
theorem dX5_tents_101 : decode cX5_tents 101 = .ok (.iload 4, 2) := by decide +kernel
theorem dX5_tents_103 : decode cX5_tents 103 = .ok (.iaload, 1) := by decide +kernel
theorem dX5_tents_104 : decode cX5_tents 104 = .ok (.imul, 1) := by decide +kernel
theorem dX5_tents_105 : decode cX5_tents 105 = .ok (.if_icmp .lt 7, 3) := by decide +kernel
theorem dX5_tents_108 : decode cX5_tents 108 = .ok (.iconst 1, 1) := by decide +kernel
theorem dX5_tents_109 : decode cX5_tents 109 = .ok (.goto 4, 3) := by decide +kernel
theorem dX5_tents_112 : decode cX5_tents 112 = .ok (.iconst 0, 1) := by decide +kernel
theorem dX5_tents_113 : decode cX5_tents 113 = .ok (.istore 6, 2) := by decide +kernel
theorem dX5_tents_115 : decode cX5_tents 115 = .ok (.iload_n 3, 1) := by decide +kernel
theorem dX5_tents_116 : decode cX5_tents 116 = .ok (.ifCond .eq 28, 3) := by decide +kernel
theorem dX5_tents_119 : decode cX5_tents 119 = .ok (.iload 6, 2) := by decide +kernel
theorem dX5_tents_121 : decode cX5_tents 121 = .ok (.aload_n 0, 1) := by decide +kernel
theorem dX5_tents_122 : decode cX5_tents 122 = .ok (.getfield 50, 3) := by decide +kernel
theorem dX5_tents_125 : decode cX5_tents 125 = .ok (.iload 4, 2) := by decide +kernel
theorem dX5_tents_127 : decode cX5_tents 127 = .ok (.iaload, 1) := by decide +kernel
theorem dX5_tents_128 : decode cX5_tents 128 = .ok (.iconst 1, 1) := by decide +kernel
theorem dX5_tents_129 : decode cX5_tents 129 = .ok (.if_icmp .ne 7, 3) := by decide +kernel
theorem dX5_tents_132 : decode cX5_tents 132 = .ok (.iconst 1, 1) := by decide +kernel
theorem dX5_tents_133 : decode cX5_tents 133 = .ok (.goto 4, 3) := by decide +kernel
theorem dX5_tents_136 : decode cX5_tents 136 = .ok (.iconst 0, 1) := by decide +kernel
theorem dX5_tents_137 : decode cX5_tents 137 = .ok (.if_icmp .ne 7, 3) := by decide +kernel
theorem dX5_tents_140 : decode cX5_tents 140 = .ok (.iconst 1, 1) := by decide +kernel
theorem dX5_tents_141 : decode cX5_tents 141 = .ok (.goto 4, 3) := by decide +kernel
theorem dX5_tents_144 : decode cX5_tents 144 = .ok (.iconst 0, 1) := by decide +kernel
theorem dX5_tents_145 : decode cX5_tents 145 = .ok (.istore_n 3, 1) := by decide +kernel
theorem dX5_tents_146 : decode cX5_tents 146 = .ok (.iinc 4 1, 3) := by decide +kernel
theorem dX5_tents_149 : decode cX5_tents 149 = .ok (.goto (-107), 3) := by decide +kernel
theorem dX5_tents_152 : decode cX5_tents 152 = .ok (.aload_n 0, 1) := by decide +kernel
theorem dX5_tents_153 : decode cX5_tents 153 = .ok (.iload_n 3, 1) := by decide +kernel
theorem dX5_tents_154 : decode cX5_tents 154 = .ok (.ifCond .eq 23, 3) := by decide +kernel
theorem dX5_tents_157 : decode cX5_tents 157 = .ok (.aload_n 0, 1) := by decide +kernel
theorem dX5_tents_158 : decode cX5_tents 158 = .ok (.getfield 240, 3) := by decide +kernel
theorem dX5_tents_161 : decode cX5_tents 161 = .ok (.ifCond .ne 16, 3) := by decide +kernel
theorem dX5_tents_164 : decode cX5_tents 164 = .ok (.bipush 10, 2) := by decide +kernel
theorem dX5_tents_166 : decode cX5_tents 166 = .ok (.iload_n 2, 1) := by decide +kernel
theorem dX5_tents_167 : decode cX5_tents 167 = .ok (.iconst 4, 1) := by decide +kernel
theorem dX5_tents_168 : decode cX5_tents 168 = .ok (.idiv, 1) := by decide +kernel
theorem dX5_tents_169 : decode cX5_tents 169 = .ok (.imul, 1) := by decide +kernel
theorem dX5_tents_170 : decode cX5_tents 170 = .ok (.iload_n 2, 1) := by decide +kernel
theorem dX5_tents_171 : decode cX5_tents 171 = .ok (.iconst 4, 1) := by decide +kernel
theorem dX5_tents_172 : decode cX5_tents 172 = .ok (.irem, 1) := by decide +kernel
theorem dX5_tents_173 : decode cX5_tents 173 = .ok (.iadd, 1) := by decide +kernel
theorem dX5_tents_174 : decode cX5_tents 174 = .ok (.goto 7, 3) := by decide +kernel
theorem dX5_tents_177 : decode cX5_tents 177 = .ok (.aload_n 0, 1) := by decide +kernel
theorem dX5_tents_178 : decode cX5_tents 178 = .ok (.getfield 243, 3) := by decide +kernel
theorem dX5_tents_181 : decode cX5_tents 181 = .ok (.putfield 243, 3) := by decide +kernel
theorem dX5_tents_184 : decode cX5_tents 184 = .ok (.aload_n 0, 1) := by decide +kernel
theorem dX5_tents_185 : decode cX5_tents 185 = .ok (.dup, 1) := by decide +kernel
theorem dX5_tents_186 : decode cX5_tents 186 = .ok (.getfield 240, 3) := by decide +kernel
theorem dX5_tents_189 : decode cX5_tents 189 = .ok (.iload_n 3, 1) := by decide +kernel
theorem dX5_tents_190 : decode cX5_tents 190 = .ok (.ifCond .eq 7, 3) := by decide +kernel
theorem dX5_tents_193 : decode cX5_tents 193 = .ok (.iconst 1, 1) := by decide +kernel
theorem dX5_tents_194 : decode cX5_tents 194 = .ok (.goto 4, 3) := by decide +kernel
theorem dX5_tents_197 : decode cX5_tents 197 = .ok (.iconst 0, 1) := by decide +kernel
theorem dX5_tents_198 : decode cX5_tents 198 = .ok (.iadd, 1) := by decide +kernel
theorem dX5_tents_199 : decode cX5_tents 199 = .ok (.putfield 240, 3) := by decide +kernel
theorem dX5_tents_202 : decode cX5_tents 202 = .ok (.iinc 2 1, 3) := by decide +kernel
theorem dX5_tents_205 : decode cX5_tents 205 = .ok (.goto (-174), 3) := by decide +kernel
theorem dX5_tents_208 : decode cX5_tents 208 = .ok (.iload_n 1, 1) := by decide +kernel
theorem dX5_tents_209 : decode cX5_tents 209 = .ok (.ifCond .ne 10, 3) := by decide +kernel
theorem dX5_tents_212 : decode cX5_tents 212 = .ok (.aload_n 0, 1) := by decide +kernel
theorem dX5_tents_213 : decode cX5_tents 213 = .ok (.getfield 240, 3) := by decide +kernel
theorem dX5_tents_216 : decode cX5_tents 216 = .ok (.goto 7, 3) := by decide +kernel
theorem dX5_tents_219 : decode cX5_tents 219 = .ok (.aload_n 0, 1) := by decide +kernel
theorem dX5_tents_220 : decode cX5_tents 220 = .ok (.getfield 243, 3) := by decide +kernel
theorem dX5_tents_223 : decode cX5_tents 223 = .ok (.ireturn, 1) := by decide +kernel
theorem dX5_rests_0 : decode cX5_rests 0 = .ok (.aload_n 0, 1) := by decide +kernel
theorem dX5_rests_1 : decode cX5_rests 1 = .ok (.iconst 0, 1) := by decide +kernel
theorem dX5_rests_2 : decode cX5_rests 2 = .ok (.putfield 59, 3) := by decide +kernel
theorem dX5_rests_5 : decode cX5_rests 5 = .ok (.iload_n 1, 1) := by decide +kernel
theorem dX5_rests_6 : decode cX5_rests 6 = .ok (.invokestatic 135, 3) := by decide +kernel
theorem dX5_rests_9 : decode cX5_rests 9 = .ok (.ifCond .ne 10, 3) := by decide +kernel
theorem dX5_rests_12 : decode cX5_rests 12 = .ok (.iload_n 2, 1) := by decide +kernel
theorem dX5_rests_13 : decode cX5_rests 13 = .ok (.invokestatic 135, 3) := by decide +kernel
theorem dX5_rests_16 : decode cX5_rests 16 = .ok (.ifCond .eq 5, 3) := by decide +kernel
theorem dX5_rests_19 : decode cX5_rests 19 = .ok (.iconst (-1), 1) := by decide +kernel
theorem dX5_rests_20 : decode cX5_rests 20 = .ok (.ireturn, 1) := by decide +kernel
theorem dX5_rests_21 : decode cX5_rests 21 = .ok (.iload_n 1, 1) := by decide +kernel
theorem dX5_rests_22 : decode cX5_rests 22 = .ok (.iload_n 2, 1) := by decide +kernel
theorem dX5_rests_23 : decode cX5_rests 23 = .ok (.if_icmp .eq 13, 3) := by decide +kernel
theorem dX5_rests_26 : decode cX5_rests 26 = .ok (.iload_n 3, 1) := by decide +kernel
theorem dX5_rests_27 : decode cX5_rests 27 = .ok (.i2l, 1) := by decide +kernel
theorem dX5_rests_28 : decode cX5_rests 28 = .ok (.lconst 0, 1) := by decide +kernel
theorem dX5_rests_29 : decode cX5_rests 29 = .ok (.lconst 1, 1) := by decide +kernel
theorem dX5_rests_30 : decode cX5_rests 30 = .ok (.invokestatic 65, 3) := by decide +kernel
theorem dX5_rests_33 : decode cX5_rests 33 = .ok (.ifCond .ne 6, 3) := by decide +kernel
theorem dX5_rests_36 : decode cX5_rests 36 = .ok (.bipush (-2), 2) := by decide +kernel
theorem dX5_rests_38 : decode cX5_rests 38 = .ok (.ireturn, 1) := by decide +kernel
theorem dX5_rests_39 : decode cX5_rests 39 = .ok (.aload_n 0, 1) := by decide +kernel
theorem dX5_rests_40 : decode cX5_rests 40 = .ok (.getfield 22, 3) := by decide +kernel
theorem dX5_rests_43 : decode cX5_rests 43 = .ok (.iload_n 1, 1) := by decide +kernel
theorem dX5_rests_44 : decode cX5_rests 44 = .ok (.iaload, 1) := by decide +kernel
theorem dX5_rests_45 : decode cX5_rests 45 = .ok (.ifCond .gt 12, 3) := by decide +kernel
theorem dX5_rests_48 : decode cX5_rests 48 = .ok (.aload_n 0, 1) := by decide +kernel
theorem dX5_rests_49 : decode cX5_rests 49 = .ok (.getfield 22, 3) := by decide +kernel
theorem dX5_rests_52 : decode cX5_rests 52 = .ok (.iload_n 2, 1) := by decide +kernel
theorem dX5_rests_53 : decode cX5_rests 53 = .ok (.iaload, 1) := by decide +kernel
theorem dX5_rests_54 : decode cX5_rests 54 = .ok (.ifCond .le 6, 3) := by decide +kernel
theorem dX5_rests_57 : decode cX5_rests 57 = .ok (.bipush (-3), 2) := by decide +kernel
theorem dX5_rests_59 : decode cX5_rests 59 = .ok (.ireturn, 1) := by decide +kernel
theorem dX5_rests_60 : decode cX5_rests 60 = .ok (.iconst 0, 1) := by decide +kernel
theorem dX5_rests_61 : decode cX5_rests 61 = .ok (.istore 4, 2) := by decide +kernel
theorem dX5_rests_63 : decode cX5_rests 63 = .ok (.iload 4, 2) := by decide +kernel
theorem dX5_rests_65 : decode cX5_rests 65 = .ok (.bipush 25, 2) := by decide +kernel
theorem dX5_rests_67 : decode cX5_rests 67 = .ok (.if_icmp .ge 127, 3) := by decide +kernel
theorem dX5_rests_70 : decode cX5_rests 70 = .ok (.aload_n 0, 1) := by decide +kernel
theorem dX5_rests_71 : decode cX5_rests 71 = .ok (.invokevirtual 209, 3) := by decide +kernel
theorem dX5_rests_74 : decode cX5_rests 74 = .ok (.aload_n 0, 1) := by decide +kernel
theorem dX5_rests_75 : decode cX5_rests 75 = .ok (.iload_n 1, 1) := by decide +kernel
theorem dX5_rests_76 : decode cX5_rests 76 = .ok (.iload 4, 2) := by decide +kernel
theorem dX5_rests_78 : decode cX5_rests 78 = .ok (.iconst 5, 1) := by decide +kernel
theorem dX5_rests_79 : decode cX5_rests 79 = .ok (.idiv, 1) := by decide +kernel
theorem dX5_rests_80 : decode cX5_rests 80 = .ok (.invokevirtual 212, 3) := by decide +kernel
theorem dX5_rests_83 : decode cX5_rests 83 = .ok (.pop, 1) := by decide +kernel
theorem dX5_rests_84 : decode cX5_rests 84 = .ok (.aload_n 0, 1) := by decide +kernel
theorem dX5_rests_85 : decode cX5_rests 85 = .ok (.iload_n 2, 1) := by decide +kernel
theorem dX5_rests_86 : decode cX5_rests 86 = .ok (.iload 4, 2) := by decide +kernel
theorem dX5_rests_88 : decode cX5_rests 88 = .ok (.iconst 5, 1) := by decide +kernel
theorem dX5_rests_89 : decode cX5_rests 89 = .ok (.irem, 1) := by decide +kernel
theorem dX5_rests_90 : decode cX5_rests 90 = .ok (.invokevirtual 212, 3) := by decide +kernel
theorem dX5_rests_93 : decode cX5_rests 93 = .ok (.pop, 1) := by decide +kernel
theorem dX5_rests_94 : decode cX5_rests 94 = .ok (.aload_n 0, 1) := by decide +kernel
theorem dX5_rests_95 : decode cX5_rests 95 = .ok (.getfield 25, 3) := by decide +kernel
theorem dX5_rests_98 : decode cX5_rests 98 = .ok (.invokestatic 122, 3) := by decide +kernel
theorem dX5_rests_101 : decode cX5_rests 101 = .ok (.invokestatic 97, 3) := by decide +kernel
theorem dX5_rests_104 : decode cX5_rests 104 = .ok (.istore 5, 2) := by decide +kernel
theorem dX5_rests_106 : decode cX5_rests 106 = .ok (.aload_n 0, 1) := by decide +kernel
theorem dX5_rests_107 : decode cX5_rests 107 = .ok (.getfield 53, 3) := by decide +kernel
theorem dX5_rests_110 : decode cX5_rests 110 = .ok (.iconst 2, 1) := by decide +kernel
theorem dX5_rests_111 : decode cX5_rests 111 = .ok (.iload 4, 2) := by decide +kernel
theorem dX5_rests_113 : decode cX5_rests 113 = .ok (.imul, 1) := by decide +kernel
theorem dX5_rests_114 : decode cX5_rests 114 = .ok (.iload 5, 2) := by decide +kernel
theorem dX5_rests_116 : decode cX5_rests 116 = .ok (.aload_n 0, 1) := by decide +kernel
theorem dX5_rests_117 : decode cX5_rests 117 = .ok (.getfield 25, 3) := by decide +kernel
theorem dX5_rests_120 : decode cX5_rests 120 = .ok (.iload_n 1, 1) := by decide +kernel
theorem dX5_rests_121 : decode cX5_rests 121 = .ok (.iaload, 1) := by decide +kernel
theorem dX5_rests_122 : decode cX5_rests 122 = .ok (.ifCond .le 7, 3) := by decide +kernel
theorem dX5_rests_125 : decode cX5_rests 125 = .ok (.iconst 2, 1) := by decide +kernel
theorem dX5_rests_126 : decode cX5_rests 126 = .ok (.goto 4, 3) := by decide +kernel
theorem dX5_rests_129 : decode cX5_rests 129 = .ok (.iconst 0, 1) := by decide +kernel
theorem dX5_rests_130 : decode cX5_rests 130 = .ok (.iadd, 1) := by decide +kernel
theorem dX5_rests_131 : decode cX5_rests 131 = .ok (.iload 4, 2) := by decide +kernel
theorem dX5_rests_133 : decode cX5_rests 133 = .ok (.iconst 5, 1) := by decide +kernel
theorem dX5_rests_134 : decode cX5_rests 134 = .ok (.idiv, 1) := by decide +kernel
theorem dX5_rests_135 : decode cX5_rests 135 = .ok (.iconst 4, 1) := by decide +kernel
theorem dX5_rests_136 : decode cX5_rests 136 = .ok (.if_icmp .ge 7, 3) := by decide +kernel
theorem dX5_rests_139 : decode cX5_rests 139 = .ok (.iconst 1, 1) := by decide +kernel
theorem dX5_rests_140 : decode cX5_rests 140 = .ok (.goto 4, 3) := by decide +kernel
theorem dX5_rests_143 : decode cX5_rests 143 = .ok (.iconst 0, 1) := by decide +kernel
theorem dX5_rests_144 : decode cX5_rests 144 = .ok (.isub, 1) := by decide +kernel
theorem dX5_rests_145 : decode cX5_rests 145 = .ok (.iastore, 1) := by decide +kernel
theorem dX5_rests_146 : decode cX5_rests 146 = .ok (.aload_n 0, 1) := by decide +kernel
theorem dX5_rests_147 : decode cX5_rests 147 = .ok (.getfield 53, 3) := by decide +kernel
theorem dX5_rests_150 : decode cX5_rests 150 = .ok (.iconst 2, 1) := by decide +kernel
theorem dX5_rests_151 : decode cX5_rests 151 = .ok (.iload 4, 2) := by decide +kernel
theorem dX5_rests_153 : decode cX5_rests 153 = .ok (.imul, 1) := by decide +kernel
theorem dX5_rests_154 : decode cX5_rests 154 = .ok (.iconst 1, 1) := by decide +kernel
theorem dX5_rests_155 : decode cX5_rests 155 = .ok (.iadd, 1) := by decide +kernel
theorem dX5_rests_156 : decode cX5_rests 156 = .ok (.iload 5, 2) := by decide +kernel
theorem dX5_rests_158 : decode cX5_rests 158 = .ok (.aload_n 0, 1) := by decide +kernel
theorem dX5_rests_159 : decode cX5_rests 159 = .ok (.getfield 25, 3) := by decide +kernel
theorem dX5_rests_162 : decode cX5_rests 162 = .ok (.iload_n 2, 1) := by decide +kernel
theorem dX5_rests_163 : decode cX5_rests 163 = .ok (.iaload, 1) := by decide +kernel
theorem dX5_rests_164 : decode cX5_rests 164 = .ok (.ifCond .le 7, 3) := by decide +kernel
theorem dX5_rests_167 : decode cX5_rests 167 = .ok (.iconst 2, 1) := by decide +kernel
theorem dX5_rests_168 : decode cX5_rests 168 = .ok (.goto 4, 3) := by decide +kernel
theorem dX5_rests_171 : decode cX5_rests 171 = .ok (.iconst 0, 1) := by decide +kernel
theorem dX5_rests_172 : decode cX5_rests 172 = .ok (.iadd, 1) := by decide +kernel
theorem dX5_rests_173 : decode cX5_rests 173 = .ok (.iload 4, 2) := by decide +kernel
theorem dX5_rests_175 : decode cX5_rests 175 = .ok (.iconst 5, 1) := by decide +kernel
theorem dX5_rests_176 : decode cX5_rests 176 = .ok (.irem, 1) := by decide +kernel
theorem dX5_rests_177 : decode cX5_rests 177 = .ok (.iconst 4, 1) := by decide +kernel
theorem dX5_rests_178 : decode cX5_rests 178 = .ok (.if_icmp .ge 7, 3) := by decide +kernel
theorem dX5_rests_181 : decode cX5_rests 181 = .ok (.iconst 1, 1) := by decide +kernel
theorem dX5_rests_182 : decode cX5_rests 182 = .ok (.goto 4, 3) := by decide +kernel
theorem dX5_rests_185 : decode cX5_rests 185 = .ok (.iconst 0, 1) := by decide +kernel
theorem dX5_rests_186 : decode cX5_rests 186 = .ok (.isub, 1) := by decide +kernel
theorem dX5_rests_187 : decode cX5_rests 187 = .ok (.iastore, 1) := by decide +kernel
theorem dX5_rests_188 : decode cX5_rests 188 = .ok (.iinc 4 1, 3) := by decide +kernel
theorem dX5_rests_191 : decode cX5_rests 191 = .ok (.goto (-128), 3) := by decide +kernel
theorem dX5_rests_194 : decode cX5_rests 194 = .ok (.aload_n 0, 1) := by decide +kernel
theorem dX5_rests_195 : decode cX5_rests 195 = .ok (.iconst 0, 1) := by decide +kernel
theorem dX5_rests_196 : decode cX5_rests 196 = .ok (.putfield 246, 3) := by decide +kernel
theorem dX5_rests_199 : decode cX5_rests 199 = .ok (.aload_n 0, 1) := by decide +kernel
theorem dX5_rests_200 : decode cX5_rests 200 = .ok (.bipush (-9), 2) := by decide +kernel
theorem dX5_rests_202 : decode cX5_rests 202 = .ok (.putfield 249, 3) := by decide +kernel
theorem dX5_rests_205 : decode cX5_rests 205 = .ok (.iconst 0, 1) := by decide +kernel
theorem dX5_rests_206 : decode cX5_rests 206 = .ok (.istore 4, 2) := by decide +kernel
theorem dX5_rests_208 : decode cX5_rests 208 = .ok (.iload 4, 2) := by decide +kernel
theorem dX5_rests_210 : decode cX5_rests 210 = .ok (.bipush 25, 2) := by decide +kernel
theorem dX5_rests_212 : decode cX5_rests 212 = .ok (.if_icmp .ge 154, 3) := by decide +kernel
theorem dX5_rests_215 : decode cX5_rests 215 = .ok (.iconst 1, 1) := by decide +kernel
theorem dX5_rests_216 : decode cX5_rests 216 = .ok (.istore 5, 2) := by decide +kernel
theorem dX5_rests_218 : decode cX5_rests 218 = .ok (.iconst 0, 1) := by decide +kernel
theorem dX5_rests_219 : decode cX5_rests 219 = .ok (.istore 6, 2) := by decide +kernel
theorem dX5_rests_221 : decode cX5_rests 221 = .ok (.iload 6, 2) := by decide +kernel
theorem dX5_rests_223 : decode cX5_rests 223 = .ok (.iconst 5, 1) := by decide +kernel
theorem dX5_rests_224 : decode cX5_rests 224 = .ok (.if_icmp .ge 82, 3) := by decide +kernel
theorem dX5_rests_227 : decode cX5_rests 227 = .ok (.iload 5, 2) := by decide +kernel
theorem dX5_rests_229 : decode cX5_rests 229 = .ok (.ifCond .eq 68, 3) := by decide +kernel
theorem dX5_rests_232 : decode cX5_rests 232 = .ok (.aload_n 0, 1) := by decide +kernel
theorem dX5_rests_233 : decode cX5_rests 233 = .ok (.getfield 53, 3) := by decide +kernel
theorem dX5_rests_236 : decode cX5_rests 236 = .ok (.iconst 2, 1) := by decide +kernel
theorem dX5_rests_237 : decode cX5_rests 237 = .ok (.iconst 5, 1) := by decide +kernel
theorem dX5_rests_238 : decode cX5_rests 238 = .ok (.iload 6, 2) := by decide +kernel
theorem dX5_rests_240 : decode cX5_rests 240 = .ok (.imul, 1) := by decide +kernel
theorem dX5_rests_241 : decode cX5_rests 241 = .ok (.iload 4, 2) := by decide +kernel
theorem dX5_rests_243 : decode cX5_rests 243 = .ok (.iconst 5, 1) := by decide +kernel
theorem dX5_rests_244 : decode cX5_rests 244 = .ok (.irem, 1) := by decide +kernel
theorem dX5_rests_245 : decode cX5_rests 245 = .ok (.iadd, 1) := by decide +kernel
theorem dX5_rests_246 : decode cX5_rests 246 = .ok (.imul, 1) := by decide +kernel
theorem dX5_rests_247 : decode cX5_rests 247 = .ok (.iaload, 1) := by decide +kernel
theorem dX5_rests_248 : decode cX5_rests 248 = .ok (.aload_n 0, 1) := by decide +kernel
theorem dX5_rests_249 : decode cX5_rests 249 = .ok (.getfield 53, 3) := by decide +kernel
theorem dX5_rests_252 : decode cX5_rests 252 = .ok (.iconst 2, 1) := by decide +kernel
theorem dX5_rests_253 : decode cX5_rests 253 = .ok (.iload 4, 2) := by decide +kernel
theorem dX5_rests_255 : decode cX5_rests 255 = .ok (.imul, 1) := by decide +kernel
theorem dX5_rests_256 : decode cX5_rests 256 = .ok (.iaload, 1) := by decide +kernel
theorem dX5_rests_257 : decode cX5_rests 257 = .ok (.if_icmp .gt 40, 3) := by decide +kernel
theorem dX5_rests_260 : decode cX5_rests 260 = .ok (.aload_n 0, 1) := by decide +kernel
theorem dX5_rests_261 : decode cX5_rests 261 = .ok (.getfield 53, 3) := by decide +kernel
theorem dX5_rests_264 : decode cX5_rests 264 = .ok (.iconst 2, 1) := by decide +kernel
theorem dX5_rests_265 : decode cX5_rests 265 = .ok (.iload 4, 2) := by decide +kernel
theorem dX5_rests_267 : decode cX5_rests 267 = .ok (.iload 4, 2) := by decide +kernel
theorem dX5_rests_269 : decode cX5_rests 269 = .ok (.iconst 5, 1) := by decide +kernel
theorem dX5_rests_270 : decode cX5_rests 270 = .ok (.irem, 1) := by decide +kernel
theorem dX5_rests_271 : decode cX5_rests 271 = .ok (.isub, 1) := by decide +kernel
theorem dX5_rests_272 : decode cX5_rests 272 = .ok (.iload 6, 2) := by decide +kernel
theorem dX5_rests_274 : decode cX5_rests 274 = .ok (.iadd, 1) := by decide +kernel
theorem dX5_rests_275 : decode cX5_rests 275 = .ok (.imul, 1) := by decide +kernel
theorem dX5_rests_276 : decode cX5_rests 276 = .ok (.iconst 1, 1) := by decide +kernel
theorem dX5_rests_277 : decode cX5_rests 277 = .ok (.iadd, 1) := by decide +kernel
theorem dX5_rests_278 : decode cX5_rests 278 = .ok (.iaload, 1) := by decide +kernel
theorem dX5_rests_279 : decode cX5_rests 279 = .ok (.aload_n 0, 1) := by decide +kernel
theorem dX5_rests_280 : decode cX5_rests 280 = .ok (.getfield 53, 3) := by decide +kernel
theorem dX5_rests_283 : decode cX5_rests 283 = .ok (.iconst 2, 1) := by decide +kernel
theorem dX5_rests_284 : decode cX5_rests 284 = .ok (.iload 4, 2) := by decide +kernel
theorem dX5_rests_286 : decode cX5_rests 286 = .ok (.imul, 1) := by decide +kernel
theorem dX5_rests_287 : decode cX5_rests 287 = .ok (.iconst 1, 1) := by decide +kernel
theorem dX5_rests_288 : decode cX5_rests 288 = .ok (.iadd, 1) := by decide +kernel
theorem dX5_rests_289 : decode cX5_rests 289 = .ok (.iaload, 1) := by decide +kernel
theorem dX5_rests_290 : decode cX5_rests 290 = .ok (.if_icmp .gt 7, 3) := by decide +kernel
theorem dX5_rests_293 : decode cX5_rests 293 = .ok (.iconst 1, 1) := by decide +kernel
theorem dX5_rests_294 : decode cX5_rests 294 = .ok (.goto 4, 3) := by decide +kernel
theorem dX5_rests_297 : decode cX5_rests 297 = .ok (.iconst 0, 1) := by decide +kernel
theorem dX5_rests_298 : decode cX5_rests 298 = .ok (.istore 5, 2) := by decide +kernel
theorem dX5_rests_300 : decode cX5_rests 300 = .ok (.iinc 6 1, 3) := by decide +kernel
theorem dX5_rests_303 : decode cX5_rests 303 = .ok (.goto (-82), 3) := by decide +kernel
theorem dX5_rests_306 : decode cX5_rests 306 = .ok (.aload_n 0, 1) := by decide +kernel
theorem dX5_rests_307 : decode cX5_rests 307 = .ok (.iload 5, 2) := by decide +kernel
theorem dX5_rests_309 : decode cX5_rests 309 = .ok (.ifCond .eq 25, 3) := by decide +kernel
theorem dX5_rests_312 : decode cX5_rests 312 = .ok (.aload_n 0, 1) := by decide +kernel
theorem dX5_rests_313 : decode cX5_rests 313 = .ok (.getfield 246, 3) := by decide +kernel
theorem dX5_rests_316 : decode cX5_rests 316 = .ok (.ifCond .ne 18, 3) := by decide +kernel
theorem dX5_rests_319 : decode cX5_rests 319 = .ok (.bipush 10, 2) := by decide +kernel
theorem dX5_rests_321 : decode cX5_rests 321 = .ok (.iload 4, 2) := by decide +kernel
theorem dX5_rests_323 : decode cX5_rests 323 = .ok (.iconst 5, 1) := by decide +kernel
theorem dX5_rests_324 : decode cX5_rests 324 = .ok (.idiv, 1) := by decide +kernel
theorem dX5_rests_325 : decode cX5_rests 325 = .ok (.imul, 1) := by decide +kernel
theorem dX5_rests_326 : decode cX5_rests 326 = .ok (.iload 4, 2) := by decide +kernel
theorem dX5_rests_328 : decode cX5_rests 328 = .ok (.iconst 5, 1) := by decide +kernel
theorem dX5_rests_329 : decode cX5_rests 329 = .ok (.irem, 1) := by decide +kernel
theorem dX5_rests_330 : decode cX5_rests 330 = .ok (.iadd, 1) := by decide +kernel
theorem dX5_rests_331 : decode cX5_rests 331 = .ok (.goto 7, 3) := by decide +kernel
theorem dX5_rests_334 : decode cX5_rests 334 = .ok (.aload_n 0, 1) := by decide +kernel
theorem dX5_rests_335 : decode cX5_rests 335 = .ok (.getfield 249, 3) := by decide +kernel
theorem dX5_rests_338 : decode cX5_rests 338 = .ok (.putfield 249, 3) := by decide +kernel
theorem dX5_rests_341 : decode cX5_rests 341 = .ok (.aload_n 0, 1) := by decide +kernel
theorem dX5_rests_342 : decode cX5_rests 342 = .ok (.dup, 1) := by decide +kernel
theorem dX5_rests_343 : decode cX5_rests 343 = .ok (.getfield 246, 3) := by decide +kernel
theorem dX5_rests_346 : decode cX5_rests 346 = .ok (.iload 5, 2) := by decide +kernel
theorem dX5_rests_348 : decode cX5_rests 348 = .ok (.ifCond .eq 7, 3) := by decide +kernel
theorem dX5_rests_351 : decode cX5_rests 351 = .ok (.iconst 1, 1) := by decide +kernel
theorem dX5_rests_352 : decode cX5_rests 352 = .ok (.goto 4, 3) := by decide +kernel
theorem dX5_rests_355 : decode cX5_rests 355 = .ok (.iconst 0, 1) := by decide +kernel
theorem dX5_rests_356 : decode cX5_rests 356 = .ok (.iadd, 1) := by decide +kernel
theorem dX5_rests_357 : decode cX5_rests 357 = .ok (.putfield 246, 3) := by decide +kernel
theorem dX5_rests_360 : decode cX5_rests 360 = .ok (.iinc 4 1, 3) := by decide +kernel
theorem dX5_rests_363 : decode cX5_rests 363 = .ok (.goto (-155), 3) := by decide +kernel
theorem dX5_rests_366 : decode cX5_rests 366 = .ok (.iload_n 3, 1) := by decide +kernel
theorem dX5_rests_367 : decode cX5_rests 367 = .ok (.ifCond .ne 10, 3) := by decide +kernel
theorem dX5_rests_370 : decode cX5_rests 370 = .ok (.aload_n 0, 1) := by decide +kernel
theorem dX5_rests_371 : decode cX5_rests 371 = .ok (.getfield 246, 3) := by decide +kernel
theorem dX5_rests_374 : decode cX5_rests 374 = .ok (.goto 7, 3) := by decide +kernel
theorem dX5_rests_377 : decode cX5_rests 377 = .ok (.aload_n 0, 1) := by decide +kernel
theorem dX5_rests_378 : decode cX5_rests 378 = .ok (.getfield 249, 3) := by decide +kernel
theorem dX5_rests_381 : decode cX5_rests 381 = .ok (.ireturn, 1) := by decide +kernel
theorem dX5_shaken_0 : decode cX5_shaken 0 = .ok (.aload_n 0, 1) := by decide +kernel
theorem dX5_shaken_1 : decode cX5_shaken 1 = .ok (.iconst 0, 1) := by decide +kernel
theorem dX5_shaken_2 : decode cX5_shaken 2 = .ok (.putfield 59, 3) := by decide +kernel
theorem dX5_shaken_5 : decode cX5_shaken 5 = .ok (.iload_n 1, 1) := by decide +kernel
theorem dX5_shaken_6 : decode cX5_shaken 6 = .ok (.i2l, 1) := by decide +kernel
theorem dX5_shaken_7 : decode cX5_shaken 7 = .ok (.lconst 0, 1) := by decide +kernel
theorem dX5_shaken_8 : decode cX5_shaken 8 = .ok (.ldc2_w 252, 3) := by decide +kernel
theorem dX5_shaken_11 : decode cX5_shaken 11 = .ok (.invokestatic 65, 3) := by decide +kernel
theorem dX5_shaken_14 : decode cX5_shaken 14 = .ok (.ifCond .eq 15, 3) := by decide +kernel
theorem dX5_shaken_17 : decode cX5_shaken 17 = .ok (.iload_n 2, 1) := by decide +kernel
theorem dX5_shaken_18 : decode cX5_shaken 18 = .ok (.i2l, 1) := by decide +kernel
theorem dX5_shaken_19 : decode cX5_shaken 19 = .ok (.lconst 0, 1) := by decide +kernel
theorem dX5_shaken_20 : decode cX5_shaken 20 = .ok (.ldc2_w 254, 3) := by decide +kernel
theorem dX5_shaken_23 : decode cX5_shaken 23 = .ok (.invokestatic 65, 3) := by decide +kernel
theorem dX5_shaken_26 : decode cX5_shaken 26 = .ok (.ifCond .ne 6, 3) := by decide +kernel
theorem dX5_shaken_29 : decode cX5_shaken 29 = .ok (.bipush (-2), 2) := by decide +kernel
theorem dX5_shaken_31 : decode cX5_shaken 31 = .ok (.ireturn, 1) := by decide +kernel
theorem dX5_shaken_32 : decode cX5_shaken 32 = .ok (.aload_n 0, 1) := by decide +kernel
theorem dX5_shaken_33 : decode cX5_shaken 33 = .ok (.getfield 22, 3) := by decide +kernel
theorem dX5_shaken_36 : decode cX5_shaken 36 = .ok (.invokestatic 122, 3) := by decide +kernel
theorem dX5_shaken_39 : decode cX5_shaken 39 = .ok (.bipush 15, 2) := by decide +kernel
theorem dX5_shaken_41 : decode cX5_shaken 41 = .ok (.iand, 1) := by decide +kernel
theorem dX5_shaken_42 : decode cX5_shaken 42 = .ok (.istore 4, 2) := by decide +kernel
theorem dX5_shaken_44 : decode cX5_shaken 44 = .ok (.iload 4, 2) := by decide +kernel
theorem dX5_shaken_46 : decode cX5_shaken 46 = .ok (.invokestatic 97, 3) := by decide +kernel
theorem dX5_shaken_49 : decode cX5_shaken 49 = .ok (.istore 5, 2) := by decide +kernel
theorem dX5_shaken_51 : decode cX5_shaken 51 = .ok (.iconst 0, 1) := by decide +kernel
theorem dX5_shaken_52 : decode cX5_shaken 52 = .ok (.istore 6, 2) := by decide +kernel
theorem dX5_shaken_54 : decode cX5_shaken 54 = .ok (.iconst 0, 1) := by decide +kernel
theorem dX5_shaken_55 : decode cX5_shaken 55 = .ok (.istore 7, 2) := by decide +kernel
theorem dX5_shaken_57 : decode cX5_shaken 57 = .ok (.iload 7, 2) := by decide +kernel
theorem dX5_shaken_59 : decode cX5_shaken 59 = .ok (.bipush 16, 2) := by decide +kernel
theorem dX5_shaken_61 : decode cX5_shaken 61 = .ok (.if_icmp .ge 84, 3) := by decide +kernel
theorem dX5_shaken_64 : decode cX5_shaken 64 = .ok (.iload 7, 2) := by decide +kernel
theorem dX5_shaken_66 : decode cX5_shaken 66 = .ok (.iload 4, 2) := by decide +kernel
theorem dX5_shaken_68 : decode cX5_shaken 68 = .ok (.iconst (-1), 1) := by decide +kernel
theorem dX5_shaken_69 : decode cX5_shaken 69 = .ok (.ixor, 1) := by decide +kernel
theorem dX5_shaken_70 : decode cX5_shaken 70 = .ok (.iand, 1) := by decide +kernel
theorem dX5_shaken_71 : decode cX5_shaken 71 = .ok (.ifCond .ne 68, 3) := by decide +kernel
theorem dX5_shaken_74 : decode cX5_shaken 74 = .ok (.aload_n 0, 1) := by decide +kernel
theorem dX5_shaken_75 : decode cX5_shaken 75 = .ok (.getfield 22, 3) := by decide +kernel
theorem dX5_shaken_78 : decode cX5_shaken 78 = .ok (.invokestatic 122, 3) := by decide +kernel
theorem dX5_shaken_81 : decode cX5_shaken 81 = .ok (.aload_n 0, 1) := by decide +kernel
theorem dX5_shaken_82 : decode cX5_shaken 82 = .ok (.getfield 22, 3) := by decide +kernel
theorem dX5_shaken_85 : decode cX5_shaken 85 = .ok (.iload 7, 2) := by decide +kernel
theorem dX5_shaken_87 : decode cX5_shaken 87 = .ok (.invokestatic 94, 3) := by decide +kernel
theorem dX5_shaken_90 : decode cX5_shaken 90 = .ok (.iconst (-1), 1) := by decide +kernel
theorem dX5_shaken_91 : decode cX5_shaken 91 = .ok (.ixor, 1) := by decide +kernel
theorem dX5_shaken_92 : decode cX5_shaken 92 = .ok (.iand, 1) := by decide +kernel
theorem dX5_shaken_93 : decode cX5_shaken 93 = .ok (.invokestatic 97, 3) := by decide +kernel
theorem dX5_shaken_96 : decode cX5_shaken 96 = .ok (.istore 8, 2) := by decide +kernel
theorem dX5_shaken_98 : decode cX5_shaken 98 = .ok (.iload 7, 2) := by decide +kernel
theorem dX5_shaken_100 : decode cX5_shaken 100 = .ok (.invokestatic 97, 3) := by decide +kernel
theorem dX5_shaken_103 : decode cX5_shaken 103 = .ok (.istore 9, 2) := by decide +kernel
theorem dX5_shaken_105 : decode cX5_shaken 105 = .ok (.iload 6, 2) := by decide +kernel
theorem dX5_shaken_107 : decode cX5_shaken 107 = .ok (.iload 8, 2) := by decide +kernel
theorem dX5_shaken_109 : decode cX5_shaken 109 = .ok (.iload_n 1, 1) := by decide +kernel
theorem dX5_shaken_110 : decode cX5_shaken 110 = .ok (.if_icmp .lt 25, 3) := by decide +kernel
theorem dX5_shaken_113 : decode cX5_shaken 113 = .ok (.iload_n 2, 1) := by decide +kernel
theorem dX5_shaken_114 : decode cX5_shaken 114 = .ok (.iload 9, 2) := by decide +kernel
theorem dX5_shaken_116 : decode cX5_shaken 116 = .ok (.invokestatic 256, 3) := by decide +kernel
theorem dX5_shaken_119 : decode cX5_shaken 119 = .ok (.bipush 10, 2) := by decide +kernel
theorem dX5_shaken_121 : decode cX5_shaken 121 = .ok (.iload_n 2, 1) := by decide +kernel
theorem dX5_shaken_122 : decode cX5_shaken 122 = .ok (.isub, 1) := by decide +kernel
theorem dX5_shaken_123 : decode cX5_shaken 123 = .ok (.iload 5, 2) := by decide +kernel
theorem dX5_shaken_125 : decode cX5_shaken 125 = .ok (.iload 9, 2) := by decide +kernel
theorem dX5_shaken_127 : decode cX5_shaken 127 = .ok (.isub, 1) := by decide +kernel
theorem dX5_shaken_128 : decode cX5_shaken 128 = .ok (.invokestatic 256, 3) := by decide +kernel
theorem dX5_shaken_131 : decode cX5_shaken 131 = .ok (.imul, 1) := by decide +kernel
theorem dX5_shaken_132 : decode cX5_shaken 132 = .ok (.goto 4, 3) := by decide +kernel
theorem dX5_shaken_135 : decode cX5_shaken 135 = .ok (.iconst 0, 1) := by decide +kernel
theorem dX5_shaken_136 : decode cX5_shaken 136 = .ok (.iadd, 1) := by decide +kernel
theorem dX5_shaken_137 : decode cX5_shaken 137 = .ok (.istore 6, 2) := by decide +kernel
theorem dX5_shaken_139 : decode cX5_shaken 139 = .ok (.iinc 7 1, 3) := by decide +kernel
theorem dX5_shaken_142 : decode cX5_shaken 142 = .ok (.goto (-85), 3) := by decide +kernel
theorem dX5_shaken_145 : decode cX5_shaken 145 = .ok (.iload 6, 2) := by decide +kernel
theorem dX5_shaken_147 : decode cX5_shaken 147 = .ok (.bipush 10, 2) := by decide +kernel
theorem dX5_shaken_149 : decode cX5_shaken 149 = .ok (.iload 5, 2) := by decide +kernel
theorem dX5_shaken_151 : decode cX5_shaken 151 = .ok (.invokestatic 256, 3) := by decide +kernel
theorem dX5_shaken_154 : decode cX5_shaken 154 = .ok (.iload_n 3, 1) := by decide +kernel
theorem dX5_shaken_155 : decode cX5_shaken 155 = .ok (.invokestatic 236, 3) := by decide +kernel
theorem dX5_shaken_158 : decode cX5_shaken 158 = .ok (.ireturn, 1) := by decide +kernel
theorem dX5_seed_0 : decode cX5_seed 0 = .ok (.aload_n 0, 1) := by decide +kernel
theorem dX5_seed_1 : decode cX5_seed 1 = .ok (.iconst 0, 1) := by decide +kernel
theorem dX5_seed_2 : decode cX5_seed 2 = .ok (.putfield 59, 3) := by decide +kernel
theorem dX5_seed_5 : decode cX5_seed 5 = .ok (.aload_n 0, 1) := by decide +kernel
theorem dX5_seed_6 : decode cX5_seed 6 = .ok (.getfield 259, 3) := by decide +kernel
theorem dX5_seed_9 : decode cX5_seed 9 = .ok (.lstore_n 3, 1) := by decide +kernel
theorem dX5_seed_10 : decode cX5_seed 10 = .ok (.aload_n 0, 1) := by decide +kernel
theorem dX5_seed_11 : decode cX5_seed 11 = .ok (.lload_n 1, 1) := by decide +kernel
theorem dX5_seed_12 : decode cX5_seed 12 = .ok (.putfield 259, 3) := by decide +kernel
theorem dX5_seed_15 : decode cX5_seed 15 = .ok (.lload_n 3, 1) := by decide +kernel
theorem dX5_seed_16 : decode cX5_seed 16 = .ok (.lreturn, 1) := by decide +kernel
theorem dX5_evenings_0 : decode cX5_evenings 0 = .ok (.aload_n 0, 1) := by decide +kernel
theorem dX5_evenings_1 : decode cX5_evenings 1 = .ok (.iconst 0, 1) := by decide +kernel
theorem dX5_evenings_2 : decode cX5_evenings 2 = .ok (.putfield 59, 3) := by decide +kernel
theorem dX5_evenings_5 : decode cX5_evenings 5 = .ok (.iload_n 1, 1) := by decide +kernel
theorem dX5_evenings_6 : decode cX5_evenings 6 = .ok (.i2l, 1) := by decide +kernel
theorem dX5_evenings_7 : decode cX5_evenings 7 = .ok (.lconst 1, 1) := by decide +kernel
theorem dX5_evenings_8 : decode cX5_evenings 8 = .ok (.ldc2_w 263, 3) := by decide +kernel
theorem dX5_evenings_11 : decode cX5_evenings 11 = .ok (.invokestatic 65, 3) := by decide +kernel
theorem dX5_evenings_14 : decode cX5_evenings 14 = .ok (.ifCond .ne 6, 3) := by decide +kernel
theorem dX5_evenings_17 : decode cX5_evenings 17 = .ok (.bipush (-2), 2) := by decide +kernel
theorem dX5_evenings_19 : decode cX5_evenings 19 = .ok (.ireturn, 1) := by decide +kernel
theorem dX5_evenings_20 : decode cX5_evenings 20 = .ok (.aload_n 0, 1) := by decide +kernel
theorem dX5_evenings_21 : decode cX5_evenings 21 = .ok (.invokevirtual 209, 3) := by decide +kernel
theorem dX5_evenings_24 : decode cX5_evenings 24 = .ok (.iconst 0, 1) := by decide +kernel
theorem dX5_evenings_25 : decode cX5_evenings 25 = .ok (.istore_n 2, 1) := by decide +kernel
theorem dX5_evenings_26 : decode cX5_evenings 26 = .ok (.iconst 0, 1) := by decide +kernel
theorem dX5_evenings_27 : decode cX5_evenings 27 = .ok (.istore_n 3, 1) := by decide +kernel
theorem dX5_evenings_28 : decode cX5_evenings 28 = .ok (.iload_n 3, 1) := by decide +kernel
theorem dX5_evenings_29 : decode cX5_evenings 29 = .ok (.iload_n 1, 1) := by decide +kernel
theorem dX5_evenings_30 : decode cX5_evenings 30 = .ok (.if_icmp .ge 116, 3) := by decide +kernel
theorem dX5_evenings_33 : decode cX5_evenings 33 = .ok (.aload_n 0, 1) := by decide +kernel
theorem dX5_evenings_34 : decode cX5_evenings 34 = .ok (.aload_n 0, 1) := by decide +kernel
theorem dX5_evenings_35 : decode cX5_evenings 35 = .ok (.getfield 259, 3) := by decide +kernel
theorem dX5_evenings_38 : decode cX5_evenings 38 = .ok (.ldc2_w 265, 3) := by decide +kernel
theorem dX5_evenings_41 : decode cX5_evenings 41 = .ok (.lmul, 1) := by decide +kernel
theorem dX5_evenings_42 : decode cX5_evenings 42 = .ok (.ldc2_w 267, 3) := by decide +kernel
theorem dX5_evenings_45 : decode cX5_evenings 45 = .ok (.ladd, 1) := by decide +kernel
theorem dX5_evenings_46 : decode cX5_evenings 46 = .ok (.putfield 259, 3) := by decide +kernel
theorem dX5_evenings_49 : decode cX5_evenings 49 = .ok (.aload_n 0, 1) := by decide +kernel
theorem dX5_evenings_50 : decode cX5_evenings 50 = .ok (.getfield 259, 3) := by decide +kernel
theorem dX5_evenings_53 : decode cX5_evenings 53 = .ok (.bipush 33, 2) := by decide +kernel
theorem dX5_evenings_55 : decode cX5_evenings 55 = .ok (.lushr, 1) := by decide +kernel
theorem dX5_evenings_56 : decode cX5_evenings 56 = .ok (.ldc2_w 269, 3) := by decide +kernel
theorem dX5_evenings_59 : decode cX5_evenings 59 = .ok (.lrem, 1) := by decide +kernel
theorem dX5_evenings_60 : decode cX5_evenings 60 = .ok (.l2i, 1) := by decide +kernel
theorem dX5_evenings_61 : decode cX5_evenings 61 = .ok (.istore 4, 2) := by decide +kernel
theorem dX5_evenings_63 : decode cX5_evenings 63 = .ok (.iload 4, 2) := by decide +kernel
theorem dX5_evenings_65 : decode cX5_evenings 65 = .ok (.bipush 64, 2) := by decide +kernel
theorem dX5_evenings_67 : decode cX5_evenings 67 = .ok (.if_icmp .ge 19, 3) := by decide +kernel
theorem dX5_evenings_70 : decode cX5_evenings 70 = .ok (.aload_n 0, 1) := by decide +kernel
theorem dX5_evenings_71 : decode cX5_evenings 71 = .ok (.iload 4, 2) := by decide +kernel
theorem dX5_evenings_73 : decode cX5_evenings 73 = .ok (.iconst 4, 1) := by decide +kernel
theorem dX5_evenings_74 : decode cX5_evenings 74 = .ok (.idiv, 1) := by decide +kernel
theorem dX5_evenings_75 : decode cX5_evenings 75 = .ok (.iload 4, 2) := by decide +kernel
theorem dX5_evenings_77 : decode cX5_evenings 77 = .ok (.iconst 4, 1) := by decide +kernel
theorem dX5_evenings_78 : decode cX5_evenings 78 = .ok (.irem, 1) := by decide +kernel
theorem dX5_evenings_79 : decode cX5_evenings 79 = .ok (.invokevirtual 212, 3) := by decide +kernel
theorem dX5_evenings_82 : decode cX5_evenings 82 = .ok (.pop, 1) := by decide +kernel
theorem dX5_evenings_83 : decode cX5_evenings 83 = .ok (.goto 44, 3) := by decide +kernel
theorem dX5_evenings_86 : decode cX5_evenings 86 = .ok (.iload 4, 2) := by decide +kernel
theorem dX5_evenings_88 : decode cX5_evenings 88 = .ok (.bipush 76, 2) := by decide +kernel
theorem dX5_evenings_90 : decode cX5_evenings 90 = .ok (.if_icmp .ge 27, 3) := by decide +kernel
theorem dX5_evenings_93 : decode cX5_evenings 93 = .ok (.aload_n 0, 1) := by decide +kernel
theorem dX5_evenings_94 : decode cX5_evenings 94 = .ok (.iload 4, 2) := by decide +kernel
theorem dX5_evenings_96 : decode cX5_evenings 96 = .ok (.bipush 64, 2) := by decide +kernel
theorem dX5_evenings_98 : decode cX5_evenings 98 = .ok (.isub, 1) := by decide +kernel
theorem dX5_evenings_99 : decode cX5_evenings 99 = .ok (.iconst 3, 1) := by decide +kernel
theorem dX5_evenings_100 : decode cX5_evenings 100 = .ok (.idiv, 1) := by decide +kernel
theorem dX5_evenings_101 : decode cX5_evenings 101 = .ok (.iconst 2, 1) := by decide +kernel
theorem dX5_evenings_102 : decode cX5_evenings 102 = .ok (.iload 4, 2) := by decide +kernel
theorem dX5_evenings_104 : decode cX5_evenings 104 = .ok (.bipush 64, 2) := by decide +kernel
theorem dX5_evenings_106 : decode cX5_evenings 106 = .ok (.isub, 1) := by decide +kernel
theorem dX5_evenings_107 : decode cX5_evenings 107 = .ok (.iconst 3, 1) := by decide +kernel
theorem dX5_evenings_108 : decode cX5_evenings 108 = .ok (.irem, 1) := by decide +kernel
theorem dX5_evenings_109 : decode cX5_evenings 109 = .ok (.iadd, 1) := by decide +kernel
theorem dX5_evenings_110 : decode cX5_evenings 110 = .ok (.invokevirtual 218, 3) := by decide +kernel
theorem dX5_evenings_113 : decode cX5_evenings 113 = .ok (.pop, 1) := by decide +kernel
theorem dX5_evenings_114 : decode cX5_evenings 114 = .ok (.goto 13, 3) := by decide +kernel
theorem dX5_evenings_117 : decode cX5_evenings 117 = .ok (.aload_n 0, 1) := by decide +kernel
theorem dX5_evenings_118 : decode cX5_evenings 118 = .ok (.iload 4, 2) := by decide +kernel
theorem dX5_evenings_120 : decode cX5_evenings 120 = .ok (.bipush 64, 2) := by decide +kernel
theorem dX5_evenings_122 : decode cX5_evenings 122 = .ok (.isub, 1) := by decide +kernel
theorem dX5_evenings_123 : decode cX5_evenings 123 = .ok (.invokevirtual 215, 3) := by decide +kernel
theorem dX5_evenings_126 : decode cX5_evenings 126 = .ok (.pop, 1) := by decide +kernel
theorem dX5_evenings_127 : decode cX5_evenings 127 = .ok (.iload_n 2, 1) := by decide +kernel
theorem dX5_evenings_128 : decode cX5_evenings 128 = .ok (.aload_n 0, 1) := by decide +kernel
theorem dX5_evenings_129 : decode cX5_evenings 129 = .ok (.getfield 25, 3) := by decide +kernel
theorem dX5_evenings_132 : decode cX5_evenings 132 = .ok (.invokestatic 122, 3) := by decide +kernel
theorem dX5_evenings_135 : decode cX5_evenings 135 = .ok (.invokestatic 97, 3) := by decide +kernel
theorem dX5_evenings_138 : decode cX5_evenings 138 = .ok (.iadd, 1) := by decide +kernel
theorem dX5_evenings_139 : decode cX5_evenings 139 = .ok (.istore_n 2, 1) := by decide +kernel
theorem dX5_evenings_140 : decode cX5_evenings 140 = .ok (.iinc 3 1, 3) := by decide +kernel
theorem dX5_evenings_143 : decode cX5_evenings 143 = .ok (.goto (-115), 3) := by decide +kernel
theorem dX5_evenings_146 : decode cX5_evenings 146 = .ok (.iload_n 2, 1) := by decide +kernel
theorem dX5_evenings_147 : decode cX5_evenings 147 = .ok (.ireturn, 1) := by decide +kernel
theorem dX5_keep_0 : decode cX5_keep 0 = .ok (.aload_n 0, 1) := by decide +kernel
theorem dX5_keep_1 : decode cX5_keep 1 = .ok (.iconst 0, 1) := by decide +kernel
theorem dX5_keep_2 : decode cX5_keep 2 = .ok (.putfield 59, 3) := by decide +kernel
theorem dX5_keep_5 : decode cX5_keep 5 = .ok (.iload_n 1, 1) := by decide +kernel
theorem dX5_keep_6 : decode cX5_keep 6 = .ok (.i2l, 1) := by decide +kernel
theorem dX5_keep_7 : decode cX5_keep 7 = .ok (.lconst 0, 1) := by decide +kernel
theorem dX5_keep_8 : decode cX5_keep 8 = .ok (.lconst 1, 1) := by decide +kernel
theorem dX5_keep_9 : decode cX5_keep 9 = .ok (.invokestatic 65, 3) := by decide +kernel
theorem dX5_keep_12 : decode cX5_keep 12 = .ok (.ifCond .ne 5, 3) := by decide +kernel
theorem dX5_keep_15 : decode cX5_keep 15 = .ok (.iconst (-1), 1) := by decide +kernel
theorem dX5_keep_16 : decode cX5_keep 16 = .ok (.ireturn, 1) := by decide +kernel
theorem dX5_keep_17 : decode cX5_keep 17 = .ok (.aload_n 0, 1) := by decide +kernel
theorem dX5_keep_18 : decode cX5_keep 18 = .ok (.getfield 37, 3) := by decide +kernel
theorem dX5_keep_21 : decode cX5_keep 21 = .ok (.iload_n 1, 1) := by decide +kernel
theorem dX5_keep_22 : decode cX5_keep 22 = .ok (.iconst 1, 1) := by decide +kernel
theorem dX5_keep_23 : decode cX5_keep 23 = .ok (.bastore, 1) := by decide +kernel
theorem dX5_keep_24 : decode cX5_keep 24 = .ok (.iconst 0, 1) := by decide +kernel
theorem dX5_keep_25 : decode cX5_keep 25 = .ok (.istore_n 2, 1) := by decide +kernel
theorem dX5_keep_26 : decode cX5_keep 26 = .ok (.iload_n 2, 1) := by decide +kernel
theorem dX5_keep_27 : decode cX5_keep 27 = .ok (.bipush 17, 2) := by decide +kernel
theorem dX5_keep_29 : decode cX5_keep 29 = .ok (.if_icmp .ge 26, 3) := by decide +kernel
theorem dX5_keep_32 : decode cX5_keep 32 = .ok (.aload_n 0, 1) := by decide +kernel
theorem dX5_keep_33 : decode cX5_keep 33 = .ok (.getfield 34, 3) := by decide +kernel
theorem dX5_keep_36 : decode cX5_keep 36 = .ok (.bipush 17, 2) := by decide +kernel
theorem dX5_keep_38 : decode cX5_keep 38 = .ok (.iload_n 1, 1) := by decide +kernel
theorem dX5_keep_39 : decode cX5_keep 39 = .ok (.imul, 1) := by decide +kernel
theorem dX5_keep_40 : decode cX5_keep 40 = .ok (.iload_n 2, 1) := by decide +kernel
theorem dX5_keep_41 : decode cX5_keep 41 = .ok (.iadd, 1) := by decide +kernel
theorem dX5_keep_42 : decode cX5_keep 42 = .ok (.aload_n 0, 1) := by decide +kernel
theorem dX5_keep_43 : decode cX5_keep 43 = .ok (.getfield 22, 3) := by decide +kernel
theorem dX5_keep_46 : decode cX5_keep 46 = .ok (.iload_n 2, 1) := by decide +kernel
theorem dX5_keep_47 : decode cX5_keep 47 = .ok (.iaload, 1) := by decide +kernel
theorem dX5_keep_48 : decode cX5_keep 48 = .ok (.iastore, 1) := by decide +kernel
theorem dX5_keep_49 : decode cX5_keep 49 = .ok (.iinc 2 1, 3) := by decide +kernel
theorem dX5_keep_52 : decode cX5_keep 52 = .ok (.goto (-26), 3) := by decide +kernel
theorem dX5_keep_55 : decode cX5_keep 55 = .ok (.aload_n 0, 1) := by decide +kernel
theorem dX5_keep_56 : decode cX5_keep 56 = .ok (.getfield 22, 3) := by decide +kernel
theorem dX5_keep_59 : decode cX5_keep 59 = .ok (.invokestatic 122, 3) := by decide +kernel
theorem dX5_keep_62 : decode cX5_keep 62 = .ok (.invokestatic 97, 3) := by decide +kernel
theorem dX5_keep_65 : decode cX5_keep 65 = .ok (.ireturn, 1) := by decide +kernel
theorem dX5_again_0 : decode cX5_again 0 = .ok (.aload_n 0, 1) := by decide +kernel
theorem dX5_again_1 : decode cX5_again 1 = .ok (.iconst 0, 1) := by decide +kernel
theorem dX5_again_2 : decode cX5_again 2 = .ok (.putfield 59, 3) := by decide +kernel
theorem dX5_again_5 : decode cX5_again 5 = .ok (.iload_n 1, 1) := by decide +kernel
theorem dX5_again_6 : decode cX5_again 6 = .ok (.i2l, 1) := by decide +kernel
theorem dX5_again_7 : decode cX5_again 7 = .ok (.lconst 0, 1) := by decide +kernel
theorem dX5_again_8 : decode cX5_again 8 = .ok (.lconst 1, 1) := by decide +kernel
theorem dX5_again_9 : decode cX5_again 9 = .ok (.invokestatic 65, 3) := by decide +kernel
theorem dX5_again_12 : decode cX5_again 12 = .ok (.ifCond .ne 5, 3) := by decide +kernel
theorem dX5_again_15 : decode cX5_again 15 = .ok (.iconst (-1), 1) := by decide +kernel
theorem dX5_again_16 : decode cX5_again 16 = .ok (.ireturn, 1) := by decide +kernel
theorem dX5_again_17 : decode cX5_again 17 = .ok (.aload_n 0, 1) := by decide +kernel
theorem dX5_again_18 : decode cX5_again 18 = .ok (.getfield 37, 3) := by decide +kernel
theorem dX5_again_21 : decode cX5_again 21 = .ok (.iload_n 1, 1) := by decide +kernel
theorem dX5_again_22 : decode cX5_again 22 = .ok (.baload, 1) := by decide +kernel
theorem dX5_again_23 : decode cX5_again 23 = .ok (.ifCond .ne 6, 3) := by decide +kernel
theorem dX5_again_26 : decode cX5_again 26 = .ok (.bipush (-3), 2) := by decide +kernel
theorem dX5_again_28 : decode cX5_again 28 = .ok (.ireturn, 1) := by decide +kernel
theorem dX5_again_29 : decode cX5_again 29 = .ok (.iconst 0, 1) := by decide +kernel
theorem dX5_again_30 : decode cX5_again 30 = .ok (.istore_n 2, 1) := by decide +kernel
theorem dX5_again_31 : decode cX5_again 31 = .ok (.iload_n 2, 1) := by decide +kernel
theorem dX5_again_32 : decode cX5_again 32 = .ok (.bipush 17, 2) := by decide +kernel
theorem dX5_again_34 : decode cX5_again 34 = .ok (.if_icmp .ge 26, 3) := by decide +kernel
theorem dX5_again_37 : decode cX5_again 37 = .ok (.aload_n 0, 1) := by decide +kernel
theorem dX5_again_38 : decode cX5_again 38 = .ok (.getfield 22, 3) := by decide +kernel
theorem dX5_again_41 : decode cX5_again 41 = .ok (.iload_n 2, 1) := by decide +kernel
theorem dX5_again_42 : decode cX5_again 42 = .ok (.aload_n 0, 1) := by decide +kernel
theorem dX5_again_43 : decode cX5_again 43 = .ok (.getfield 34, 3) := by decide +kernel
theorem dX5_again_46 : decode cX5_again 46 = .ok (.bipush 17, 2) := by decide +kernel
theorem dX5_again_48 : decode cX5_again 48 = .ok (.iload_n 1, 1) := by decide +kernel
theorem dX5_again_49 : decode cX5_again 49 = .ok (.imul, 1) := by decide +kernel
theorem dX5_again_50 : decode cX5_again 50 = .ok (.iload_n 2, 1) := by decide +kernel
theorem dX5_again_51 : decode cX5_again 51 = .ok (.iadd, 1) := by decide +kernel
theorem dX5_again_52 : decode cX5_again 52 = .ok (.iaload, 1) := by decide +kernel
theorem dX5_again_53 : decode cX5_again 53 = .ok (.iastore, 1) := by decide +kernel
theorem dX5_again_54 : decode cX5_again 54 = .ok (.iinc 2 1, 3) := by decide +kernel
theorem dX5_again_57 : decode cX5_again 57 = .ok (.goto (-26), 3) := by decide +kernel
theorem dX5_again_60 : decode cX5_again 60 = .ok (.aload_n 0, 1) := by decide +kernel
theorem dX5_again_61 : decode cX5_again 61 = .ok (.iconst 0, 1) := by decide +kernel
theorem dX5_again_62 : decode cX5_again 62 = .ok (.putfield 154, 3) := by decide +kernel
theorem dX5_again_65 : decode cX5_again 65 = .ok (.aload_n 0, 1) := by decide +kernel
theorem dX5_again_66 : decode cX5_again 66 = .ok (.getfield 22, 3) := by decide +kernel
theorem dX5_again_69 : decode cX5_again 69 = .ok (.invokestatic 122, 3) := by decide +kernel
theorem dX5_again_72 : decode cX5_again 72 = .ok (.invokestatic 97, 3) := by decide +kernel
theorem dX5_again_75 : decode cX5_again 75 = .ok (.ireturn, 1) := by decide +kernel
theorem dJ6_numberOfTrailingZeros_0f7a4_0 : decode cJ6_numberOfTrailingZeros_0f7a4 0 = .ok (.iload_n 0, 1) := by decide +kernel
theorem dJ6_numberOfTrailingZeros_0f7a4_1 : decode cJ6_numberOfTrailingZeros_0f7a4 1 = .ok (.iconst (-1), 1) := by decide +kernel
theorem dJ6_numberOfTrailingZeros_0f7a4_2 : decode cJ6_numberOfTrailingZeros_0f7a4 2 = .ok (.ixor, 1) := by decide +kernel
theorem dJ6_numberOfTrailingZeros_0f7a4_3 : decode cJ6_numberOfTrailingZeros_0f7a4 3 = .ok (.iload_n 0, 1) := by decide +kernel
theorem dJ6_numberOfTrailingZeros_0f7a4_4 : decode cJ6_numberOfTrailingZeros_0f7a4 4 = .ok (.iconst 1, 1) := by decide +kernel
theorem dJ6_numberOfTrailingZeros_0f7a4_5 : decode cJ6_numberOfTrailingZeros_0f7a4 5 = .ok (.isub, 1) := by decide +kernel
theorem dJ6_numberOfTrailingZeros_0f7a4_6 : decode cJ6_numberOfTrailingZeros_0f7a4 6 = .ok (.iand, 1) := by decide +kernel
theorem dJ6_numberOfTrailingZeros_0f7a4_7 : decode cJ6_numberOfTrailingZeros_0f7a4 7 = .ok (.istore_n 0, 1) := by decide +kernel
theorem dJ6_numberOfTrailingZeros_0f7a4_8 : decode cJ6_numberOfTrailingZeros_0f7a4 8 = .ok (.iload_n 0, 1) := by decide +kernel
theorem dJ6_numberOfTrailingZeros_0f7a4_9 : decode cJ6_numberOfTrailingZeros_0f7a4 9 = .ok (.ifCond .gt 8, 3) := by decide +kernel
theorem dJ6_numberOfTrailingZeros_0f7a4_12 : decode cJ6_numberOfTrailingZeros_0f7a4 12 = .ok (.iload_n 0, 1) := by decide +kernel
theorem dJ6_numberOfTrailingZeros_0f7a4_13 : decode cJ6_numberOfTrailingZeros_0f7a4 13 = .ok (.bipush 32, 2) := by decide +kernel
theorem dJ6_numberOfTrailingZeros_0f7a4_15 : decode cJ6_numberOfTrailingZeros_0f7a4 15 = .ok (.iand, 1) := by decide +kernel
theorem dJ6_numberOfTrailingZeros_0f7a4_16 : decode cJ6_numberOfTrailingZeros_0f7a4 16 = .ok (.ireturn, 1) := by decide +kernel
theorem dJ6_numberOfTrailingZeros_0f7a4_17 : decode cJ6_numberOfTrailingZeros_0f7a4 17 = .ok (.iconst 1, 1) := by decide +kernel
theorem dJ6_numberOfTrailingZeros_0f7a4_18 : decode cJ6_numberOfTrailingZeros_0f7a4 18 = .ok (.istore_n 1, 1) := by decide +kernel
theorem dJ6_numberOfTrailingZeros_0f7a4_19 : decode cJ6_numberOfTrailingZeros_0f7a4 19 = .ok (.iload_n 0, 1) := by decide +kernel
theorem dJ6_numberOfTrailingZeros_0f7a4_20 : decode cJ6_numberOfTrailingZeros_0f7a4 20 = .ok (.ldc_w 264, 3) := by decide +kernel
theorem dJ6_numberOfTrailingZeros_0f7a4_23 : decode cJ6_numberOfTrailingZeros_0f7a4 23 = .ok (.if_icmp .le 11, 3) := by decide +kernel
theorem dJ6_numberOfTrailingZeros_0f7a4_26 : decode cJ6_numberOfTrailingZeros_0f7a4 26 = .ok (.iinc 1 16, 3) := by decide +kernel
theorem dJ6_numberOfTrailingZeros_0f7a4_29 : decode cJ6_numberOfTrailingZeros_0f7a4 29 = .ok (.iload_n 0, 1) := by decide +kernel
theorem dJ6_numberOfTrailingZeros_0f7a4_30 : decode cJ6_numberOfTrailingZeros_0f7a4 30 = .ok (.bipush 16, 2) := by decide +kernel
theorem dJ6_numberOfTrailingZeros_0f7a4_32 : decode cJ6_numberOfTrailingZeros_0f7a4 32 = .ok (.iushr, 1) := by decide +kernel
theorem dJ6_numberOfTrailingZeros_0f7a4_33 : decode cJ6_numberOfTrailingZeros_0f7a4 33 = .ok (.istore_n 0, 1) := by decide +kernel
theorem dJ6_numberOfTrailingZeros_0f7a4_34 : decode cJ6_numberOfTrailingZeros_0f7a4 34 = .ok (.iload_n 0, 1) := by decide +kernel
theorem dJ6_numberOfTrailingZeros_0f7a4_35 : decode cJ6_numberOfTrailingZeros_0f7a4 35 = .ok (.sipush 256, 3) := by decide +kernel
theorem dJ6_numberOfTrailingZeros_0f7a4_38 : decode cJ6_numberOfTrailingZeros_0f7a4 38 = .ok (.if_icmp .le 11, 3) := by decide +kernel
theorem dJ6_numberOfTrailingZeros_0f7a4_41 : decode cJ6_numberOfTrailingZeros_0f7a4 41 = .ok (.iinc 1 8, 3) := by decide +kernel
theorem dJ6_numberOfTrailingZeros_0f7a4_44 : decode cJ6_numberOfTrailingZeros_0f7a4 44 = .ok (.iload_n 0, 1) := by decide +kernel
theorem dJ6_numberOfTrailingZeros_0f7a4_45 : decode cJ6_numberOfTrailingZeros_0f7a4 45 = .ok (.bipush 8, 2) := by decide +kernel
theorem dJ6_numberOfTrailingZeros_0f7a4_47 : decode cJ6_numberOfTrailingZeros_0f7a4 47 = .ok (.iushr, 1) := by decide +kernel
theorem dJ6_numberOfTrailingZeros_0f7a4_48 : decode cJ6_numberOfTrailingZeros_0f7a4 48 = .ok (.istore_n 0, 1) := by decide +kernel
theorem dJ6_numberOfTrailingZeros_0f7a4_49 : decode cJ6_numberOfTrailingZeros_0f7a4 49 = .ok (.iload_n 0, 1) := by decide +kernel
theorem dJ6_numberOfTrailingZeros_0f7a4_50 : decode cJ6_numberOfTrailingZeros_0f7a4 50 = .ok (.bipush 16, 2) := by decide +kernel
theorem dJ6_numberOfTrailingZeros_0f7a4_52 : decode cJ6_numberOfTrailingZeros_0f7a4 52 = .ok (.if_icmp .le 10, 3) := by decide +kernel
theorem dJ6_numberOfTrailingZeros_0f7a4_55 : decode cJ6_numberOfTrailingZeros_0f7a4 55 = .ok (.iinc 1 4, 3) := by decide +kernel
theorem dJ6_numberOfTrailingZeros_0f7a4_58 : decode cJ6_numberOfTrailingZeros_0f7a4 58 = .ok (.iload_n 0, 1) := by decide +kernel
theorem dJ6_numberOfTrailingZeros_0f7a4_59 : decode cJ6_numberOfTrailingZeros_0f7a4 59 = .ok (.iconst 4, 1) := by decide +kernel
theorem dJ6_numberOfTrailingZeros_0f7a4_60 : decode cJ6_numberOfTrailingZeros_0f7a4 60 = .ok (.iushr, 1) := by decide +kernel
theorem dJ6_numberOfTrailingZeros_0f7a4_61 : decode cJ6_numberOfTrailingZeros_0f7a4 61 = .ok (.istore_n 0, 1) := by decide +kernel
theorem dJ6_numberOfTrailingZeros_0f7a4_62 : decode cJ6_numberOfTrailingZeros_0f7a4 62 = .ok (.iload_n 0, 1) := by decide +kernel
theorem dJ6_numberOfTrailingZeros_0f7a4_63 : decode cJ6_numberOfTrailingZeros_0f7a4 63 = .ok (.iconst 4, 1) := by decide +kernel
theorem dJ6_numberOfTrailingZeros_0f7a4_64 : decode cJ6_numberOfTrailingZeros_0f7a4 64 = .ok (.if_icmp .le 10, 3) := by decide +kernel
theorem dJ6_numberOfTrailingZeros_0f7a4_67 : decode cJ6_numberOfTrailingZeros_0f7a4 67 = .ok (.iinc 1 2, 3) := by decide +kernel
theorem dJ6_numberOfTrailingZeros_0f7a4_70 : decode cJ6_numberOfTrailingZeros_0f7a4 70 = .ok (.iload_n 0, 1) := by decide +kernel
theorem dJ6_numberOfTrailingZeros_0f7a4_71 : decode cJ6_numberOfTrailingZeros_0f7a4 71 = .ok (.iconst 2, 1) := by decide +kernel
theorem dJ6_numberOfTrailingZeros_0f7a4_72 : decode cJ6_numberOfTrailingZeros_0f7a4 72 = .ok (.iushr, 1) := by decide +kernel
theorem dJ6_numberOfTrailingZeros_0f7a4_73 : decode cJ6_numberOfTrailingZeros_0f7a4 73 = .ok (.istore_n 0, 1) := by decide +kernel
theorem dJ6_numberOfTrailingZeros_0f7a4_74 : decode cJ6_numberOfTrailingZeros_0f7a4 74 = .ok (.iload_n 1, 1) := by decide +kernel
theorem dJ6_numberOfTrailingZeros_0f7a4_75 : decode cJ6_numberOfTrailingZeros_0f7a4 75 = .ok (.iload_n 0, 1) := by decide +kernel
theorem dJ6_numberOfTrailingZeros_0f7a4_76 : decode cJ6_numberOfTrailingZeros_0f7a4 76 = .ok (.iconst 1, 1) := by decide +kernel
theorem dJ6_numberOfTrailingZeros_0f7a4_77 : decode cJ6_numberOfTrailingZeros_0f7a4 77 = .ok (.iushr, 1) := by decide +kernel
theorem dJ6_numberOfTrailingZeros_0f7a4_78 : decode cJ6_numberOfTrailingZeros_0f7a4 78 = .ok (.iadd, 1) := by decide +kernel
theorem dJ6_numberOfTrailingZeros_0f7a4_79 : decode cJ6_numberOfTrailingZeros_0f7a4 79 = .ok (.ireturn, 1) := by decide +kernel
theorem dJ6_bitCount_0f7a4_0 : decode cJ6_bitCount_0f7a4 0 = .ok (.iload_n 0, 1) := by decide +kernel
theorem dJ6_bitCount_0f7a4_1 : decode cJ6_bitCount_0f7a4 1 = .ok (.iload_n 0, 1) := by decide +kernel
theorem dJ6_bitCount_0f7a4_2 : decode cJ6_bitCount_0f7a4 2 = .ok (.iconst 1, 1) := by decide +kernel
theorem dJ6_bitCount_0f7a4_3 : decode cJ6_bitCount_0f7a4 3 = .ok (.iushr, 1) := by decide +kernel
theorem dJ6_bitCount_0f7a4_4 : decode cJ6_bitCount_0f7a4 4 = .ok (.ldc_w 265, 3) := by decide +kernel
theorem dJ6_bitCount_0f7a4_7 : decode cJ6_bitCount_0f7a4 7 = .ok (.iand, 1) := by decide +kernel
theorem dJ6_bitCount_0f7a4_8 : decode cJ6_bitCount_0f7a4 8 = .ok (.isub, 1) := by decide +kernel
theorem dJ6_bitCount_0f7a4_9 : decode cJ6_bitCount_0f7a4 9 = .ok (.istore_n 0, 1) := by decide +kernel
theorem dJ6_bitCount_0f7a4_10 : decode cJ6_bitCount_0f7a4 10 = .ok (.iload_n 0, 1) := by decide +kernel
theorem dJ6_bitCount_0f7a4_11 : decode cJ6_bitCount_0f7a4 11 = .ok (.ldc_w 266, 3) := by decide +kernel
theorem dJ6_bitCount_0f7a4_14 : decode cJ6_bitCount_0f7a4 14 = .ok (.iand, 1) := by decide +kernel
theorem dJ6_bitCount_0f7a4_15 : decode cJ6_bitCount_0f7a4 15 = .ok (.iload_n 0, 1) := by decide +kernel
theorem dJ6_bitCount_0f7a4_16 : decode cJ6_bitCount_0f7a4 16 = .ok (.iconst 2, 1) := by decide +kernel
theorem dJ6_bitCount_0f7a4_17 : decode cJ6_bitCount_0f7a4 17 = .ok (.iushr, 1) := by decide +kernel
theorem dJ6_bitCount_0f7a4_18 : decode cJ6_bitCount_0f7a4 18 = .ok (.ldc_w 266, 3) := by decide +kernel
theorem dJ6_bitCount_0f7a4_21 : decode cJ6_bitCount_0f7a4 21 = .ok (.iand, 1) := by decide +kernel
theorem dJ6_bitCount_0f7a4_22 : decode cJ6_bitCount_0f7a4 22 = .ok (.iadd, 1) := by decide +kernel
theorem dJ6_bitCount_0f7a4_23 : decode cJ6_bitCount_0f7a4 23 = .ok (.istore_n 0, 1) := by decide +kernel
theorem dJ6_bitCount_0f7a4_24 : decode cJ6_bitCount_0f7a4 24 = .ok (.iload_n 0, 1) := by decide +kernel
theorem dJ6_bitCount_0f7a4_25 : decode cJ6_bitCount_0f7a4 25 = .ok (.iload_n 0, 1) := by decide +kernel
theorem dJ6_bitCount_0f7a4_26 : decode cJ6_bitCount_0f7a4 26 = .ok (.iconst 4, 1) := by decide +kernel
theorem dJ6_bitCount_0f7a4_27 : decode cJ6_bitCount_0f7a4 27 = .ok (.iushr, 1) := by decide +kernel
theorem dJ6_bitCount_0f7a4_28 : decode cJ6_bitCount_0f7a4 28 = .ok (.iadd, 1) := by decide +kernel
theorem dJ6_bitCount_0f7a4_29 : decode cJ6_bitCount_0f7a4 29 = .ok (.ldc_w 267, 3) := by decide +kernel
theorem dJ6_bitCount_0f7a4_32 : decode cJ6_bitCount_0f7a4 32 = .ok (.iand, 1) := by decide +kernel
theorem dJ6_bitCount_0f7a4_33 : decode cJ6_bitCount_0f7a4 33 = .ok (.istore_n 0, 1) := by decide +kernel
theorem dJ6_bitCount_0f7a4_34 : decode cJ6_bitCount_0f7a4 34 = .ok (.iload_n 0, 1) := by decide +kernel
theorem dJ6_bitCount_0f7a4_35 : decode cJ6_bitCount_0f7a4 35 = .ok (.iload_n 0, 1) := by decide +kernel
theorem dJ6_bitCount_0f7a4_36 : decode cJ6_bitCount_0f7a4 36 = .ok (.bipush 8, 2) := by decide +kernel
theorem dJ6_bitCount_0f7a4_38 : decode cJ6_bitCount_0f7a4 38 = .ok (.iushr, 1) := by decide +kernel
theorem dJ6_bitCount_0f7a4_39 : decode cJ6_bitCount_0f7a4 39 = .ok (.iadd, 1) := by decide +kernel
theorem dJ6_bitCount_0f7a4_40 : decode cJ6_bitCount_0f7a4 40 = .ok (.istore_n 0, 1) := by decide +kernel
theorem dJ6_bitCount_0f7a4_41 : decode cJ6_bitCount_0f7a4 41 = .ok (.iload_n 0, 1) := by decide +kernel
theorem dJ6_bitCount_0f7a4_42 : decode cJ6_bitCount_0f7a4 42 = .ok (.iload_n 0, 1) := by decide +kernel
theorem dJ6_bitCount_0f7a4_43 : decode cJ6_bitCount_0f7a4 43 = .ok (.bipush 16, 2) := by decide +kernel
theorem dJ6_bitCount_0f7a4_45 : decode cJ6_bitCount_0f7a4 45 = .ok (.iushr, 1) := by decide +kernel
theorem dJ6_bitCount_0f7a4_46 : decode cJ6_bitCount_0f7a4 46 = .ok (.iadd, 1) := by decide +kernel
theorem dJ6_bitCount_0f7a4_47 : decode cJ6_bitCount_0f7a4 47 = .ok (.istore_n 0, 1) := by decide +kernel
theorem dJ6_bitCount_0f7a4_48 : decode cJ6_bitCount_0f7a4 48 = .ok (.iload_n 0, 1) := by decide +kernel
theorem dJ6_bitCount_0f7a4_49 : decode cJ6_bitCount_0f7a4 49 = .ok (.bipush 63, 2) := by decide +kernel
theorem dJ6_bitCount_0f7a4_51 : decode cJ6_bitCount_0f7a4 51 = .ok (.iand, 1) := by decide +kernel
theorem dJ6_bitCount_0f7a4_52 : decode cJ6_bitCount_0f7a4 52 = .ok (.ireturn, 1) := by decide +kernel
theorem dJ9_abs_0f7a4_0 : decode cJ9_abs_0f7a4 0 = .ok (.iload_n 0, 1) := by decide +kernel
theorem dJ9_abs_0f7a4_1 : decode cJ9_abs_0f7a4 1 = .ok (.ifCond .ge 8, 3) := by decide +kernel
theorem dJ9_abs_0f7a4_4 : decode cJ9_abs_0f7a4 4 = .ok (.iload_n 0, 1) := by decide +kernel
theorem dJ9_abs_0f7a4_5 : decode cJ9_abs_0f7a4 5 = .ok (.ineg, 1) := by decide +kernel
theorem dJ9_abs_0f7a4_6 : decode cJ9_abs_0f7a4 6 = .ok (.goto 4, 3) := by decide +kernel
theorem dJ9_abs_0f7a4_9 : decode cJ9_abs_0f7a4 9 = .ok (.iload_n 0, 1) := by decide +kernel
theorem dJ9_abs_0f7a4_10 : decode cJ9_abs_0f7a4 10 = .ok (.ireturn, 1) := by decide +kernel
theorem dJ9_max_7cf53_0 : decode cJ9_max_7cf53 0 = .ok (.iload_n 0, 1) := by decide +kernel
theorem dJ9_max_7cf53_1 : decode cJ9_max_7cf53 1 = .ok (.iload_n 1, 1) := by decide +kernel
theorem dJ9_max_7cf53_2 : decode cJ9_max_7cf53 2 = .ok (.if_icmp .lt 7, 3) := by decide +kernel
theorem dJ9_max_7cf53_5 : decode cJ9_max_7cf53 5 = .ok (.iload_n 0, 1) := by decide +kernel
theorem dJ9_max_7cf53_6 : decode cJ9_max_7cf53 6 = .ok (.goto 4, 3) := by decide +kernel
theorem dJ9_max_7cf53_9 : decode cJ9_max_7cf53 9 = .ok (.iload_n 1, 1) := by decide +kernel
theorem dJ9_max_7cf53_10 : decode cJ9_max_7cf53 10 = .ok (.ireturn, 1) := by decide +kernel
theorem dJ9_min_7cf53_0 : decode cJ9_min_7cf53 0 = .ok (.iload_n 0, 1) := by decide +kernel
theorem dJ9_min_7cf53_1 : decode cJ9_min_7cf53 1 = .ok (.iload_n 1, 1) := by decide +kernel
theorem dJ9_min_7cf53_2 : decode cJ9_min_7cf53 2 = .ok (.if_icmp .gt 7, 3) := by decide +kernel
theorem dJ9_min_7cf53_5 : decode cJ9_min_7cf53 5 = .ok (.iload_n 0, 1) := by decide +kernel
theorem dJ9_min_7cf53_6 : decode cJ9_min_7cf53 6 = .ok (.goto 4, 3) := by decide +kernel
theorem dJ9_min_7cf53_9 : decode cJ9_min_7cf53 9 = .ok (.iload_n 1, 1) := by decide +kernel
theorem dJ9_min_7cf53_10 : decode cJ9_min_7cf53 10 = .ok (.ireturn, 1) := by decide +kernel
theorem dL_law_0 : decode cL_law 0 = .ok (.new 7, 3) := by decide +kernel
theorem dL_law_3 : decode cL_law 3 = .ok (.dup, 1) := by decide +kernel
theorem dL_law_4 : decode cL_law 4 = .ok (.invokespecial 9, 3) := by decide +kernel
theorem dL_law_7 : decode cL_law 7 = .ok (.astore_n 1, 1) := by decide +kernel
theorem dL_law_8 : decode cL_law 8 = .ok (.new 10, 3) := by decide +kernel
theorem dL_law_11 : decode cL_law 11 = .ok (.dup, 1) := by decide +kernel
theorem dL_law_12 : decode cL_law 12 = .ok (.invokespecial 12, 3) := by decide +kernel
theorem dL_law_15 : decode cL_law 15 = .ok (.astore_n 2, 1) := by decide +kernel
theorem dL_law_16 : decode cL_law 16 = .ok (.iconst 0, 1) := by decide +kernel
theorem dL_law_17 : decode cL_law 17 = .ok (.istore_n 3, 1) := by decide +kernel
theorem dL_law_18 : decode cL_law 18 = .ok (.iload_n 3, 1) := by decide +kernel
theorem dL_law_19 : decode cL_law 19 = .ok (.aload_n 0, 1) := by decide +kernel
theorem dL_law_20 : decode cL_law 20 = .ok (.arraylength, 1) := by decide +kernel
theorem dL_law_21 : decode cL_law 21 = .ok (.iconst 5, 1) := by decide +kernel
theorem dL_law_22 : decode cL_law 22 = .ok (.isub, 1) := by decide +kernel
theorem dL_law_23 : decode cL_law 23 = .ok (.if_icmp .gt 933, 3) := by decide +kernel
theorem dL_law_26 : decode cL_law 26 = .ok (.aload_n 0, 1) := by decide +kernel
theorem dL_law_27 : decode cL_law 27 = .ok (.iload_n 3, 1) := by decide +kernel
theorem dL_law_28 : decode cL_law 28 = .ok (.iaload, 1) := by decide +kernel
theorem dL_law_29 : decode cL_law 29 = .ok (.bipush 31, 2) := by decide +kernel
theorem dL_law_31 : decode cL_law 31 = .ok (.iand, 1) := by decide +kernel
theorem dL_law_32 : decode cL_law 32 = .ok (.tableswitch 918 0 26 #[124, 147, 160, 173, 186, 209, 232, 265, 298, 321, 354, 367, 390, 413, 436, 469, 492, 555, 604, 657, 670, 693, 736, 795, 849, 872, 895], 124) := by decide +kernel
theorem dL_law_156 : decode cL_law 156 = .ok (.aload_n 1, 1) := by decide +kernel
theorem dL_law_157 : decode cL_law 157 = .ok (.aload_n 0, 1) := by decide +kernel
theorem dL_law_158 : decode cL_law 158 = .ok (.iload_n 3, 1) := by decide +kernel
theorem dL_law_159 : decode cL_law 159 = .ok (.iconst 1, 1) := by decide +kernel
theorem dL_law_160 : decode cL_law 160 = .ok (.iadd, 1) := by decide +kernel
theorem dL_law_161 : decode cL_law 161 = .ok (.iaload, 1) := by decide +kernel
theorem dL_law_162 : decode cL_law 162 = .ok (.invokevirtual 13, 3) := by decide +kernel
theorem dL_law_165 : decode cL_law 165 = .ok (.aload_n 2, 1) := by decide +kernel
theorem dL_law_166 : decode cL_law 166 = .ok (.aload_n 0, 1) := by decide +kernel
theorem dL_law_167 : decode cL_law 167 = .ok (.iload_n 3, 1) := by decide +kernel
theorem dL_law_168 : decode cL_law 168 = .ok (.iconst 1, 1) := by decide +kernel
theorem dL_law_169 : decode cL_law 169 = .ok (.iadd, 1) := by decide +kernel
theorem dL_law_170 : decode cL_law 170 = .ok (.iaload, 1) := by decide +kernel
theorem dL_law_171 : decode cL_law 171 = .ok (.invokevirtual 17, 3) := by decide +kernel
theorem dL_law_174 : decode cL_law 174 = .ok (.if_icmp .eq 776, 3) := by decide +kernel
theorem dL_law_177 : decode cL_law 177 = .ok (.iconst 0, 1) := by decide +kernel
theorem dL_law_178 : decode cL_law 178 = .ok (.ireturn, 1) := by decide +kernel
theorem dL_law_179 : decode cL_law 179 = .ok (.aload_n 1, 1) := by decide +kernel
theorem dL_law_180 : decode cL_law 180 = .ok (.invokevirtual 18, 3) := by decide +kernel
theorem dL_law_183 : decode cL_law 183 = .ok (.aload_n 2, 1) := by decide +kernel
theorem dL_law_184 : decode cL_law 184 = .ok (.invokevirtual 22, 3) := by decide +kernel
theorem dL_law_187 : decode cL_law 187 = .ok (.if_icmp .eq 763, 3) := by decide +kernel
theorem dL_law_190 : decode cL_law 190 = .ok (.iconst 0, 1) := by decide +kernel
theorem dL_law_191 : decode cL_law 191 = .ok (.ireturn, 1) := by decide +kernel
theorem dL_law_192 : decode cL_law 192 = .ok (.aload_n 1, 1) := by decide +kernel
theorem dL_law_193 : decode cL_law 193 = .ok (.invokevirtual 23, 3) := by decide +kernel
theorem dL_law_196 : decode cL_law 196 = .ok (.aload_n 2, 1) := by decide +kernel
theorem dL_law_197 : decode cL_law 197 = .ok (.invokevirtual 26, 3) := by decide +kernel
theorem dL_law_200 : decode cL_law 200 = .ok (.if_icmp .eq 750, 3) := by decide +kernel
theorem dL_law_203 : decode cL_law 203 = .ok (.iconst 0, 1) := by decide +kernel
theorem dL_law_204 : decode cL_law 204 = .ok (.ireturn, 1) := by decide +kernel
theorem dL_law_205 : decode cL_law 205 = .ok (.aload_n 1, 1) := by decide +kernel
theorem dL_law_206 : decode cL_law 206 = .ok (.invokevirtual 27, 3) := by decide +kernel
theorem dL_law_209 : decode cL_law 209 = .ok (.aload_n 2, 1) := by decide +kernel
theorem dL_law_210 : decode cL_law 210 = .ok (.invokevirtual 30, 3) := by decide +kernel
theorem dL_law_213 : decode cL_law 213 = .ok (.if_icmp .eq 737, 3) := by decide +kernel
theorem dL_law_216 : decode cL_law 216 = .ok (.iconst 0, 1) := by decide +kernel
theorem dL_law_217 : decode cL_law 217 = .ok (.ireturn, 1) := by decide +kernel
theorem dL_law_218 : decode cL_law 218 = .ok (.aload_n 1, 1) := by decide +kernel
theorem dL_law_219 : decode cL_law 219 = .ok (.aload_n 0, 1) := by decide +kernel
theorem dL_law_220 : decode cL_law 220 = .ok (.iload_n 3, 1) := by decide +kernel
theorem dL_law_221 : decode cL_law 221 = .ok (.iconst 1, 1) := by decide +kernel
theorem dL_law_222 : decode cL_law 222 = .ok (.iadd, 1) := by decide +kernel
theorem dL_law_223 : decode cL_law 223 = .ok (.iaload, 1) := by decide +kernel
theorem dL_law_224 : decode cL_law 224 = .ok (.invokevirtual 31, 3) := by decide +kernel
theorem dL_law_227 : decode cL_law 227 = .ok (.aload_n 2, 1) := by decide +kernel
theorem dL_law_228 : decode cL_law 228 = .ok (.aload_n 0, 1) := by decide +kernel
theorem dL_law_229 : decode cL_law 229 = .ok (.iload_n 3, 1) := by decide +kernel
theorem dL_law_230 : decode cL_law 230 = .ok (.iconst 1, 1) := by decide +kernel
theorem dL_law_231 : decode cL_law 231 = .ok (.iadd, 1) := by decide +kernel
theorem dL_law_232 : decode cL_law 232 = .ok (.iaload, 1) := by decide +kernel
theorem dL_law_233 : decode cL_law 233 = .ok (.invokevirtual 34, 3) := by decide +kernel
theorem dL_law_236 : decode cL_law 236 = .ok (.if_icmp .eq 714, 3) := by decide +kernel
theorem dL_law_239 : decode cL_law 239 = .ok (.iconst 0, 1) := by decide +kernel
theorem dL_law_240 : decode cL_law 240 = .ok (.ireturn, 1) := by decide +kernel
theorem dL_law_241 : decode cL_law 241 = .ok (.aload_n 1, 1) := by decide +kernel
theorem dL_law_242 : decode cL_law 242 = .ok (.aload_n 0, 1) := by decide +kernel
theorem dL_law_243 : decode cL_law 243 = .ok (.iload_n 3, 1) := by decide +kernel
theorem dL_law_244 : decode cL_law 244 = .ok (.iconst 1, 1) := by decide +kernel
theorem dL_law_245 : decode cL_law 245 = .ok (.iadd, 1) := by decide +kernel
theorem dL_law_246 : decode cL_law 246 = .ok (.iaload, 1) := by decide +kernel
theorem dL_law_247 : decode cL_law 247 = .ok (.invokevirtual 35, 3) := by decide +kernel
theorem dL_law_250 : decode cL_law 250 = .ok (.aload_n 2, 1) := by decide +kernel
theorem dL_law_251 : decode cL_law 251 = .ok (.aload_n 0, 1) := by decide +kernel
theorem dL_law_252 : decode cL_law 252 = .ok (.iload_n 3, 1) := by decide +kernel
theorem dL_law_253 : decode cL_law 253 = .ok (.iconst 1, 1) := by decide +kernel
theorem dL_law_254 : decode cL_law 254 = .ok (.iadd, 1) := by decide +kernel
theorem dL_law_255 : decode cL_law 255 = .ok (.iaload, 1) := by decide +kernel
theorem dL_law_256 : decode cL_law 256 = .ok (.invokevirtual 38, 3) := by decide +kernel
theorem dL_law_259 : decode cL_law 259 = .ok (.if_icmp .eq 691, 3) := by decide +kernel
theorem dL_law_262 : decode cL_law 262 = .ok (.iconst 0, 1) := by decide +kernel
theorem dL_law_263 : decode cL_law 263 = .ok (.ireturn, 1) := by decide +kernel
theorem dL_law_264 : decode cL_law 264 = .ok (.aload_n 1, 1) := by decide +kernel
theorem dL_law_265 : decode cL_law 265 = .ok (.aload_n 0, 1) := by decide +kernel
theorem dL_law_266 : decode cL_law 266 = .ok (.iload_n 3, 1) := by decide +kernel
theorem dL_law_267 : decode cL_law 267 = .ok (.iconst 1, 1) := by decide +kernel
theorem dL_law_268 : decode cL_law 268 = .ok (.iadd, 1) := by decide +kernel
theorem dL_law_269 : decode cL_law 269 = .ok (.iaload, 1) := by decide +kernel
theorem dL_law_270 : decode cL_law 270 = .ok (.aload_n 0, 1) := by decide +kernel
theorem dL_law_271 : decode cL_law 271 = .ok (.iload_n 3, 1) := by decide +kernel
theorem dL_law_272 : decode cL_law 272 = .ok (.iconst 2, 1) := by decide +kernel
theorem dL_law_273 : decode cL_law 273 = .ok (.iadd, 1) := by decide +kernel
theorem dL_law_274 : decode cL_law 274 = .ok (.iaload, 1) := by decide +kernel
theorem dL_law_275 : decode cL_law 275 = .ok (.invokevirtual 39, 3) := by decide +kernel
theorem dL_law_278 : decode cL_law 278 = .ok (.aload_n 2, 1) := by decide +kernel
theorem dL_law_279 : decode cL_law 279 = .ok (.aload_n 0, 1) := by decide +kernel
theorem dL_law_280 : decode cL_law 280 = .ok (.iload_n 3, 1) := by decide +kernel
theorem dL_law_281 : decode cL_law 281 = .ok (.iconst 1, 1) := by decide +kernel
theorem dL_law_282 : decode cL_law 282 = .ok (.iadd, 1) := by decide +kernel
theorem dL_law_283 : decode cL_law 283 = .ok (.iaload, 1) := by decide +kernel
theorem dL_law_284 : decode cL_law 284 = .ok (.aload_n 0, 1) := by decide +kernel
theorem dL_law_285 : decode cL_law 285 = .ok (.iload_n 3, 1) := by decide +kernel
theorem dL_law_286 : decode cL_law 286 = .ok (.iconst 2, 1) := by decide +kernel
theorem dL_law_287 : decode cL_law 287 = .ok (.iadd, 1) := by decide +kernel
theorem dL_law_288 : decode cL_law 288 = .ok (.iaload, 1) := by decide +kernel
theorem dL_law_289 : decode cL_law 289 = .ok (.invokevirtual 43, 3) := by decide +kernel
theorem dL_law_292 : decode cL_law 292 = .ok (.if_icmp .eq 658, 3) := by decide +kernel
theorem dL_law_295 : decode cL_law 295 = .ok (.iconst 0, 1) := by decide +kernel
theorem dL_law_296 : decode cL_law 296 = .ok (.ireturn, 1) := by decide +kernel
theorem dL_law_297 : decode cL_law 297 = .ok (.aload_n 1, 1) := by decide +kernel
theorem dL_law_298 : decode cL_law 298 = .ok (.aload_n 0, 1) := by decide +kernel
theorem dL_law_299 : decode cL_law 299 = .ok (.iload_n 3, 1) := by decide +kernel
theorem dL_law_300 : decode cL_law 300 = .ok (.iconst 1, 1) := by decide +kernel
theorem dL_law_301 : decode cL_law 301 = .ok (.iadd, 1) := by decide +kernel
theorem dL_law_302 : decode cL_law 302 = .ok (.iaload, 1) := by decide +kernel
theorem dL_law_303 : decode cL_law 303 = .ok (.aload_n 0, 1) := by decide +kernel
theorem dL_law_304 : decode cL_law 304 = .ok (.iload_n 3, 1) := by decide +kernel
theorem dL_law_305 : decode cL_law 305 = .ok (.iconst 2, 1) := by decide +kernel
theorem dL_law_306 : decode cL_law 306 = .ok (.iadd, 1) := by decide +kernel
theorem dL_law_307 : decode cL_law 307 = .ok (.iaload, 1) := by decide +kernel
theorem dL_law_308 : decode cL_law 308 = .ok (.invokevirtual 44, 3) := by decide +kernel
theorem dL_law_311 : decode cL_law 311 = .ok (.aload_n 2, 1) := by decide +kernel
theorem dL_law_312 : decode cL_law 312 = .ok (.aload_n 0, 1) := by decide +kernel
theorem dL_law_313 : decode cL_law 313 = .ok (.iload_n 3, 1) := by decide +kernel
theorem dL_law_314 : decode cL_law 314 = .ok (.iconst 1, 1) := by decide +kernel
theorem dL_law_315 : decode cL_law 315 = .ok (.iadd, 1) := by decide +kernel
theorem dL_law_316 : decode cL_law 316 = .ok (.iaload, 1) := by decide +kernel
theorem dL_law_317 : decode cL_law 317 = .ok (.aload_n 0, 1) := by decide +kernel
theorem dL_law_318 : decode cL_law 318 = .ok (.iload_n 3, 1) := by decide +kernel
theorem dL_law_319 : decode cL_law 319 = .ok (.iconst 2, 1) := by decide +kernel
theorem dL_law_320 : decode cL_law 320 = .ok (.iadd, 1) := by decide +kernel
theorem dL_law_321 : decode cL_law 321 = .ok (.iaload, 1) := by decide +kernel
theorem dL_law_322 : decode cL_law 322 = .ok (.invokevirtual 47, 3) := by decide +kernel
theorem dL_law_325 : decode cL_law 325 = .ok (.if_icmp .eq 625, 3) := by decide +kernel
theorem dL_law_328 : decode cL_law 328 = .ok (.iconst 0, 1) := by decide +kernel
theorem dL_law_329 : decode cL_law 329 = .ok (.ireturn, 1) := by decide +kernel
theorem dL_law_330 : decode cL_law 330 = .ok (.aload_n 1, 1) := by decide +kernel
theorem dL_law_331 : decode cL_law 331 = .ok (.aload_n 0, 1) := by decide +kernel
theorem dL_law_332 : decode cL_law 332 = .ok (.iload_n 3, 1) := by decide +kernel
theorem dL_law_333 : decode cL_law 333 = .ok (.iconst 1, 1) := by decide +kernel
theorem dL_law_334 : decode cL_law 334 = .ok (.iadd, 1) := by decide +kernel
theorem dL_law_335 : decode cL_law 335 = .ok (.iaload, 1) := by decide +kernel
theorem dL_law_336 : decode cL_law 336 = .ok (.invokevirtual 48, 3) := by decide +kernel
theorem dL_law_339 : decode cL_law 339 = .ok (.aload_n 2, 1) := by decide +kernel
theorem dL_law_340 : decode cL_law 340 = .ok (.aload_n 0, 1) := by decide +kernel
theorem dL_law_341 : decode cL_law 341 = .ok (.iload_n 3, 1) := by decide +kernel
theorem dL_law_342 : decode cL_law 342 = .ok (.iconst 1, 1) := by decide +kernel
theorem dL_law_343 : decode cL_law 343 = .ok (.iadd, 1) := by decide +kernel
theorem dL_law_344 : decode cL_law 344 = .ok (.iaload, 1) := by decide +kernel
theorem dL_law_345 : decode cL_law 345 = .ok (.invokevirtual 51, 3) := by decide +kernel
theorem dL_law_348 : decode cL_law 348 = .ok (.if_icmp .eq 602, 3) := by decide +kernel
theorem dL_law_351 : decode cL_law 351 = .ok (.iconst 0, 1) := by decide +kernel
theorem dL_law_352 : decode cL_law 352 = .ok (.ireturn, 1) := by decide +kernel
theorem dL_law_353 : decode cL_law 353 = .ok (.aload_n 1, 1) := by decide +kernel
theorem dL_law_354 : decode cL_law 354 = .ok (.aload_n 0, 1) := by decide +kernel
theorem dL_law_355 : decode cL_law 355 = .ok (.iload_n 3, 1) := by decide +kernel
theorem dL_law_356 : decode cL_law 356 = .ok (.iconst 1, 1) := by decide +kernel
theorem dL_law_357 : decode cL_law 357 = .ok (.iadd, 1) := by decide +kernel
theorem dL_law_358 : decode cL_law 358 = .ok (.iaload, 1) := by decide +kernel
theorem dL_law_359 : decode cL_law 359 = .ok (.aload_n 0, 1) := by decide +kernel
theorem dL_law_360 : decode cL_law 360 = .ok (.iload_n 3, 1) := by decide +kernel
theorem dL_law_361 : decode cL_law 361 = .ok (.iconst 2, 1) := by decide +kernel
theorem dL_law_362 : decode cL_law 362 = .ok (.iadd, 1) := by decide +kernel
theorem dL_law_363 : decode cL_law 363 = .ok (.iaload, 1) := by decide +kernel
theorem dL_law_364 : decode cL_law 364 = .ok (.invokevirtual 52, 3) := by decide +kernel
theorem dL_law_367 : decode cL_law 367 = .ok (.aload_n 2, 1) := by decide +kernel
theorem dL_law_368 : decode cL_law 368 = .ok (.aload_n 0, 1) := by decide +kernel
theorem dL_law_369 : decode cL_law 369 = .ok (.iload_n 3, 1) := by decide +kernel
theorem dL_law_370 : decode cL_law 370 = .ok (.iconst 1, 1) := by decide +kernel
theorem dL_law_371 : decode cL_law 371 = .ok (.iadd, 1) := by decide +kernel
theorem dL_law_372 : decode cL_law 372 = .ok (.iaload, 1) := by decide +kernel
theorem dL_law_373 : decode cL_law 373 = .ok (.aload_n 0, 1) := by decide +kernel
theorem dL_law_374 : decode cL_law 374 = .ok (.iload_n 3, 1) := by decide +kernel
theorem dL_law_375 : decode cL_law 375 = .ok (.iconst 2, 1) := by decide +kernel
theorem dL_law_376 : decode cL_law 376 = .ok (.iadd, 1) := by decide +kernel
theorem dL_law_377 : decode cL_law 377 = .ok (.iaload, 1) := by decide +kernel
theorem dL_law_378 : decode cL_law 378 = .ok (.invokevirtual 55, 3) := by decide +kernel
theorem dL_law_381 : decode cL_law 381 = .ok (.if_icmp .eq 569, 3) := by decide +kernel
theorem dL_law_384 : decode cL_law 384 = .ok (.iconst 0, 1) := by decide +kernel
theorem dL_law_385 : decode cL_law 385 = .ok (.ireturn, 1) := by decide +kernel
theorem dL_law_386 : decode cL_law 386 = .ok (.aload_n 1, 1) := by decide +kernel
theorem dL_law_387 : decode cL_law 387 = .ok (.invokevirtual 56, 3) := by decide +kernel
theorem dL_law_390 : decode cL_law 390 = .ok (.aload_n 2, 1) := by decide +kernel
theorem dL_law_391 : decode cL_law 391 = .ok (.invokevirtual 59, 3) := by decide +kernel
theorem dL_law_394 : decode cL_law 394 = .ok (.if_icmp .eq 556, 3) := by decide +kernel
theorem dL_law_397 : decode cL_law 397 = .ok (.iconst 0, 1) := by decide +kernel
theorem dL_law_398 : decode cL_law 398 = .ok (.ireturn, 1) := by decide +kernel
theorem dL_law_399 : decode cL_law 399 = .ok (.aload_n 1, 1) := by decide +kernel
theorem dL_law_400 : decode cL_law 400 = .ok (.aload_n 0, 1) := by decide +kernel
theorem dL_law_401 : decode cL_law 401 = .ok (.iload_n 3, 1) := by decide +kernel
theorem dL_law_402 : decode cL_law 402 = .ok (.iconst 1, 1) := by decide +kernel
theorem dL_law_403 : decode cL_law 403 = .ok (.iadd, 1) := by decide +kernel
theorem dL_law_404 : decode cL_law 404 = .ok (.iaload, 1) := by decide +kernel
theorem dL_law_405 : decode cL_law 405 = .ok (.invokevirtual 60, 3) := by decide +kernel
theorem dL_law_408 : decode cL_law 408 = .ok (.aload_n 2, 1) := by decide +kernel
theorem dL_law_409 : decode cL_law 409 = .ok (.aload_n 0, 1) := by decide +kernel
theorem dL_law_410 : decode cL_law 410 = .ok (.iload_n 3, 1) := by decide +kernel
theorem dL_law_411 : decode cL_law 411 = .ok (.iconst 1, 1) := by decide +kernel
theorem dL_law_412 : decode cL_law 412 = .ok (.iadd, 1) := by decide +kernel
theorem dL_law_413 : decode cL_law 413 = .ok (.iaload, 1) := by decide +kernel
theorem dL_law_414 : decode cL_law 414 = .ok (.invokevirtual 63, 3) := by decide +kernel
theorem dL_law_417 : decode cL_law 417 = .ok (.if_icmp .eq 533, 3) := by decide +kernel
theorem dL_law_420 : decode cL_law 420 = .ok (.iconst 0, 1) := by decide +kernel
theorem dL_law_421 : decode cL_law 421 = .ok (.ireturn, 1) := by decide +kernel
theorem dL_law_422 : decode cL_law 422 = .ok (.aload_n 1, 1) := by decide +kernel
theorem dL_law_423 : decode cL_law 423 = .ok (.aload_n 0, 1) := by decide +kernel
theorem dL_law_424 : decode cL_law 424 = .ok (.iload_n 3, 1) := by decide +kernel
theorem dL_law_425 : decode cL_law 425 = .ok (.iconst 1, 1) := by decide +kernel
theorem dL_law_426 : decode cL_law 426 = .ok (.iadd, 1) := by decide +kernel
theorem dL_law_427 : decode cL_law 427 = .ok (.iaload, 1) := by decide +kernel
theorem dL_law_428 : decode cL_law 428 = .ok (.invokevirtual 64, 3) := by decide +kernel
theorem dL_law_431 : decode cL_law 431 = .ok (.aload_n 2, 1) := by decide +kernel
theorem dL_law_432 : decode cL_law 432 = .ok (.aload_n 0, 1) := by decide +kernel
theorem dL_law_433 : decode cL_law 433 = .ok (.iload_n 3, 1) := by decide +kernel
theorem dL_law_434 : decode cL_law 434 = .ok (.iconst 1, 1) := by decide +kernel
theorem dL_law_435 : decode cL_law 435 = .ok (.iadd, 1) := by decide +kernel
theorem dL_law_436 : decode cL_law 436 = .ok (.iaload, 1) := by decide +kernel
theorem dL_law_437 : decode cL_law 437 = .ok (.invokevirtual 67, 3) := by decide +kernel
theorem dL_law_440 : decode cL_law 440 = .ok (.if_icmp .eq 510, 3) := by decide +kernel
theorem dL_law_443 : decode cL_law 443 = .ok (.iconst 0, 1) := by decide +kernel
theorem dL_law_444 : decode cL_law 444 = .ok (.ireturn, 1) := by decide +kernel
theorem dL_law_445 : decode cL_law 445 = .ok (.aload_n 1, 1) := by decide +kernel
theorem dL_law_446 : decode cL_law 446 = .ok (.aload_n 0, 1) := by decide +kernel
theorem dL_law_447 : decode cL_law 447 = .ok (.iload_n 3, 1) := by decide +kernel
theorem dL_law_448 : decode cL_law 448 = .ok (.iconst 1, 1) := by decide +kernel
theorem dL_law_449 : decode cL_law 449 = .ok (.iadd, 1) := by decide +kernel
theorem dL_law_450 : decode cL_law 450 = .ok (.iaload, 1) := by decide +kernel
theorem dL_law_451 : decode cL_law 451 = .ok (.invokevirtual 68, 3) := by decide +kernel
theorem dL_law_454 : decode cL_law 454 = .ok (.aload_n 2, 1) := by decide +kernel
theorem dL_law_455 : decode cL_law 455 = .ok (.aload_n 0, 1) := by decide +kernel
theorem dL_law_456 : decode cL_law 456 = .ok (.iload_n 3, 1) := by decide +kernel
theorem dL_law_457 : decode cL_law 457 = .ok (.iconst 1, 1) := by decide +kernel
theorem dL_law_458 : decode cL_law 458 = .ok (.iadd, 1) := by decide +kernel
theorem dL_law_459 : decode cL_law 459 = .ok (.iaload, 1) := by decide +kernel
theorem dL_law_460 : decode cL_law 460 = .ok (.invokevirtual 71, 3) := by decide +kernel
theorem dL_law_463 : decode cL_law 463 = .ok (.if_icmp .eq 487, 3) := by decide +kernel
theorem dL_law_466 : decode cL_law 466 = .ok (.iconst 0, 1) := by decide +kernel
theorem dL_law_467 : decode cL_law 467 = .ok (.ireturn, 1) := by decide +kernel
theorem dL_law_468 : decode cL_law 468 = .ok (.aload_n 1, 1) := by decide +kernel
theorem dL_law_469 : decode cL_law 469 = .ok (.aload_n 0, 1) := by decide +kernel
theorem dL_law_470 : decode cL_law 470 = .ok (.iload_n 3, 1) := by decide +kernel
theorem dL_law_471 : decode cL_law 471 = .ok (.iconst 1, 1) := by decide +kernel
theorem dL_law_472 : decode cL_law 472 = .ok (.iadd, 1) := by decide +kernel
theorem dL_law_473 : decode cL_law 473 = .ok (.iaload, 1) := by decide +kernel
theorem dL_law_474 : decode cL_law 474 = .ok (.aload_n 0, 1) := by decide +kernel
theorem dL_law_475 : decode cL_law 475 = .ok (.iload_n 3, 1) := by decide +kernel
theorem dL_law_476 : decode cL_law 476 = .ok (.iconst 2, 1) := by decide +kernel
theorem dL_law_477 : decode cL_law 477 = .ok (.iadd, 1) := by decide +kernel
theorem dL_law_478 : decode cL_law 478 = .ok (.iaload, 1) := by decide +kernel
theorem dL_law_479 : decode cL_law 479 = .ok (.invokevirtual 72, 3) := by decide +kernel
theorem dL_law_482 : decode cL_law 482 = .ok (.aload_n 2, 1) := by decide +kernel
theorem dL_law_483 : decode cL_law 483 = .ok (.aload_n 0, 1) := by decide +kernel
theorem dL_law_484 : decode cL_law 484 = .ok (.iload_n 3, 1) := by decide +kernel
theorem dL_law_485 : decode cL_law 485 = .ok (.iconst 1, 1) := by decide +kernel
theorem dL_law_486 : decode cL_law 486 = .ok (.iadd, 1) := by decide +kernel
theorem dL_law_487 : decode cL_law 487 = .ok (.iaload, 1) := by decide +kernel
theorem dL_law_488 : decode cL_law 488 = .ok (.aload_n 0, 1) := by decide +kernel
theorem dL_law_489 : decode cL_law 489 = .ok (.iload_n 3, 1) := by decide +kernel
theorem dL_law_490 : decode cL_law 490 = .ok (.iconst 2, 1) := by decide +kernel
theorem dL_law_491 : decode cL_law 491 = .ok (.iadd, 1) := by decide +kernel
theorem dL_law_492 : decode cL_law 492 = .ok (.iaload, 1) := by decide +kernel
theorem dL_law_493 : decode cL_law 493 = .ok (.invokevirtual 75, 3) := by decide +kernel
theorem dL_law_496 : decode cL_law 496 = .ok (.if_icmp .eq 454, 3) := by decide +kernel
theorem dL_law_499 : decode cL_law 499 = .ok (.iconst 0, 1) := by decide +kernel
theorem dL_law_500 : decode cL_law 500 = .ok (.ireturn, 1) := by decide +kernel
theorem dL_law_501 : decode cL_law 501 = .ok (.aload_n 1, 1) := by decide +kernel
theorem dL_law_502 : decode cL_law 502 = .ok (.aload_n 0, 1) := by decide +kernel
theorem dL_law_503 : decode cL_law 503 = .ok (.iload_n 3, 1) := by decide +kernel
theorem dL_law_504 : decode cL_law 504 = .ok (.iconst 1, 1) := by decide +kernel
theorem dL_law_505 : decode cL_law 505 = .ok (.iadd, 1) := by decide +kernel
theorem dL_law_506 : decode cL_law 506 = .ok (.iaload, 1) := by decide +kernel
theorem dL_law_507 : decode cL_law 507 = .ok (.invokevirtual 76, 3) := by decide +kernel
theorem dL_law_510 : decode cL_law 510 = .ok (.aload_n 2, 1) := by decide +kernel
theorem dL_law_511 : decode cL_law 511 = .ok (.aload_n 0, 1) := by decide +kernel
theorem dL_law_512 : decode cL_law 512 = .ok (.iload_n 3, 1) := by decide +kernel
theorem dL_law_513 : decode cL_law 513 = .ok (.iconst 1, 1) := by decide +kernel
theorem dL_law_514 : decode cL_law 514 = .ok (.iadd, 1) := by decide +kernel
theorem dL_law_515 : decode cL_law 515 = .ok (.iaload, 1) := by decide +kernel
theorem dL_law_516 : decode cL_law 516 = .ok (.invokevirtual 79, 3) := by decide +kernel
theorem dL_law_519 : decode cL_law 519 = .ok (.if_icmp .eq 431, 3) := by decide +kernel
theorem dL_law_522 : decode cL_law 522 = .ok (.iconst 0, 1) := by decide +kernel
theorem dL_law_523 : decode cL_law 523 = .ok (.ireturn, 1) := by decide +kernel
theorem dL_law_524 : decode cL_law 524 = .ok (.aload_n 1, 1) := by decide +kernel
theorem dL_law_525 : decode cL_law 525 = .ok (.aload_n 0, 1) := by decide +kernel
theorem dL_law_526 : decode cL_law 526 = .ok (.iload_n 3, 1) := by decide +kernel
theorem dL_law_527 : decode cL_law 527 = .ok (.iconst 1, 1) := by decide +kernel
theorem dL_law_528 : decode cL_law 528 = .ok (.iadd, 1) := by decide +kernel
theorem dL_law_529 : decode cL_law 529 = .ok (.iaload, 1) := by decide +kernel
theorem dL_law_530 : decode cL_law 530 = .ok (.aload_n 0, 1) := by decide +kernel
theorem dL_law_531 : decode cL_law 531 = .ok (.iload_n 3, 1) := by decide +kernel
theorem dL_law_532 : decode cL_law 532 = .ok (.iconst 2, 1) := by decide +kernel
theorem dL_law_533 : decode cL_law 533 = .ok (.iadd, 1) := by decide +kernel
theorem dL_law_534 : decode cL_law 534 = .ok (.iaload, 1) := by decide +kernel
theorem dL_law_535 : decode cL_law 535 = .ok (.i2l, 1) := by decide +kernel
theorem dL_law_536 : decode cL_law 536 = .ok (.bipush 32, 2) := by decide +kernel
theorem dL_law_538 : decode cL_law 538 = .ok (.lshl, 1) := by decide +kernel
theorem dL_law_539 : decode cL_law 539 = .ok (.aload_n 0, 1) := by decide +kernel
theorem dL_law_540 : decode cL_law 540 = .ok (.iload_n 3, 1) := by decide +kernel
theorem dL_law_541 : decode cL_law 541 = .ok (.iconst 3, 1) := by decide +kernel
theorem dL_law_542 : decode cL_law 542 = .ok (.iadd, 1) := by decide +kernel
theorem dL_law_543 : decode cL_law 543 = .ok (.iaload, 1) := by decide +kernel
theorem dL_law_544 : decode cL_law 544 = .ok (.i2l, 1) := by decide +kernel
theorem dL_law_545 : decode cL_law 545 = .ok (.ldc2_w 80, 3) := by decide +kernel
theorem dL_law_548 : decode cL_law 548 = .ok (.land, 1) := by decide +kernel
theorem dL_law_549 : decode cL_law 549 = .ok (.lor, 1) := by decide +kernel
theorem dL_law_550 : decode cL_law 550 = .ok (.invokevirtual 82, 3) := by decide +kernel
theorem dL_law_553 : decode cL_law 553 = .ok (.aload_n 2, 1) := by decide +kernel
theorem dL_law_554 : decode cL_law 554 = .ok (.aload_n 0, 1) := by decide +kernel
theorem dL_law_555 : decode cL_law 555 = .ok (.iload_n 3, 1) := by decide +kernel
theorem dL_law_556 : decode cL_law 556 = .ok (.iconst 1, 1) := by decide +kernel
theorem dL_law_557 : decode cL_law 557 = .ok (.iadd, 1) := by decide +kernel
theorem dL_law_558 : decode cL_law 558 = .ok (.iaload, 1) := by decide +kernel
theorem dL_law_559 : decode cL_law 559 = .ok (.aload_n 0, 1) := by decide +kernel
theorem dL_law_560 : decode cL_law 560 = .ok (.iload_n 3, 1) := by decide +kernel
theorem dL_law_561 : decode cL_law 561 = .ok (.iconst 2, 1) := by decide +kernel
theorem dL_law_562 : decode cL_law 562 = .ok (.iadd, 1) := by decide +kernel
theorem dL_law_563 : decode cL_law 563 = .ok (.iaload, 1) := by decide +kernel
theorem dL_law_564 : decode cL_law 564 = .ok (.i2l, 1) := by decide +kernel
theorem dL_law_565 : decode cL_law 565 = .ok (.bipush 32, 2) := by decide +kernel
theorem dL_law_567 : decode cL_law 567 = .ok (.lshl, 1) := by decide +kernel
theorem dL_law_568 : decode cL_law 568 = .ok (.aload_n 0, 1) := by decide +kernel
theorem dL_law_569 : decode cL_law 569 = .ok (.iload_n 3, 1) := by decide +kernel
theorem dL_law_570 : decode cL_law 570 = .ok (.iconst 3, 1) := by decide +kernel
theorem dL_law_571 : decode cL_law 571 = .ok (.iadd, 1) := by decide +kernel
theorem dL_law_572 : decode cL_law 572 = .ok (.iaload, 1) := by decide +kernel
theorem dL_law_573 : decode cL_law 573 = .ok (.i2l, 1) := by decide +kernel
theorem dL_law_574 : decode cL_law 574 = .ok (.ldc2_w 80, 3) := by decide +kernel
theorem dL_law_577 : decode cL_law 577 = .ok (.land, 1) := by decide +kernel
theorem dL_law_578 : decode cL_law 578 = .ok (.lor, 1) := by decide +kernel
theorem dL_law_579 : decode cL_law 579 = .ok (.invokevirtual 86, 3) := by decide +kernel
theorem dL_law_582 : decode cL_law 582 = .ok (.if_icmp .eq 368, 3) := by decide +kernel
theorem dL_law_585 : decode cL_law 585 = .ok (.iconst 0, 1) := by decide +kernel
theorem dL_law_586 : decode cL_law 586 = .ok (.ireturn, 1) := by decide +kernel
theorem dL_law_587 : decode cL_law 587 = .ok (.aload_n 1, 1) := by decide +kernel
theorem dL_law_588 : decode cL_law 588 = .ok (.aload_n 0, 1) := by decide +kernel
theorem dL_law_589 : decode cL_law 589 = .ok (.iload_n 3, 1) := by decide +kernel
theorem dL_law_590 : decode cL_law 590 = .ok (.iconst 1, 1) := by decide +kernel
theorem dL_law_591 : decode cL_law 591 = .ok (.iadd, 1) := by decide +kernel
theorem dL_law_592 : decode cL_law 592 = .ok (.iaload, 1) := by decide +kernel
theorem dL_law_593 : decode cL_law 593 = .ok (.aload_n 0, 1) := by decide +kernel
theorem dL_law_594 : decode cL_law 594 = .ok (.iload_n 3, 1) := by decide +kernel
theorem dL_law_595 : decode cL_law 595 = .ok (.iconst 2, 1) := by decide +kernel
theorem dL_law_596 : decode cL_law 596 = .ok (.iadd, 1) := by decide +kernel
theorem dL_law_597 : decode cL_law 597 = .ok (.iaload, 1) := by decide +kernel
theorem dL_law_598 : decode cL_law 598 = .ok (.ifCond .eq 7, 3) := by decide +kernel
theorem dL_law_601 : decode cL_law 601 = .ok (.iconst 1, 1) := by decide +kernel
theorem dL_law_602 : decode cL_law 602 = .ok (.goto 4, 3) := by decide +kernel
theorem dL_law_605 : decode cL_law 605 = .ok (.iconst 0, 1) := by decide +kernel
theorem dL_law_606 : decode cL_law 606 = .ok (.invokevirtual 87, 3) := by decide +kernel
theorem dL_law_609 : decode cL_law 609 = .ok (.aload_n 2, 1) := by decide +kernel
theorem dL_law_610 : decode cL_law 610 = .ok (.aload_n 0, 1) := by decide +kernel
theorem dL_law_611 : decode cL_law 611 = .ok (.iload_n 3, 1) := by decide +kernel
theorem dL_law_612 : decode cL_law 612 = .ok (.iconst 1, 1) := by decide +kernel
theorem dL_law_613 : decode cL_law 613 = .ok (.iadd, 1) := by decide +kernel
theorem dL_law_614 : decode cL_law 614 = .ok (.iaload, 1) := by decide +kernel
theorem dL_law_615 : decode cL_law 615 = .ok (.aload_n 0, 1) := by decide +kernel
theorem dL_law_616 : decode cL_law 616 = .ok (.iload_n 3, 1) := by decide +kernel
theorem dL_law_617 : decode cL_law 617 = .ok (.iconst 2, 1) := by decide +kernel
theorem dL_law_618 : decode cL_law 618 = .ok (.iadd, 1) := by decide +kernel
theorem dL_law_619 : decode cL_law 619 = .ok (.iaload, 1) := by decide +kernel
theorem dL_law_620 : decode cL_law 620 = .ok (.ifCond .eq 7, 3) := by decide +kernel
theorem dL_law_623 : decode cL_law 623 = .ok (.iconst 1, 1) := by decide +kernel
theorem dL_law_624 : decode cL_law 624 = .ok (.goto 4, 3) := by decide +kernel
theorem dL_law_627 : decode cL_law 627 = .ok (.iconst 0, 1) := by decide +kernel
theorem dL_law_628 : decode cL_law 628 = .ok (.invokevirtual 91, 3) := by decide +kernel
theorem dL_law_631 : decode cL_law 631 = .ok (.if_icmp .eq 319, 3) := by decide +kernel
theorem dL_law_634 : decode cL_law 634 = .ok (.iconst 0, 1) := by decide +kernel
theorem dL_law_635 : decode cL_law 635 = .ok (.ireturn, 1) := by decide +kernel
theorem dL_law_636 : decode cL_law 636 = .ok (.aload_n 1, 1) := by decide +kernel
theorem dL_law_637 : decode cL_law 637 = .ok (.aload_n 0, 1) := by decide +kernel
theorem dL_law_638 : decode cL_law 638 = .ok (.iload_n 3, 1) := by decide +kernel
theorem dL_law_639 : decode cL_law 639 = .ok (.iconst 1, 1) := by decide +kernel
theorem dL_law_640 : decode cL_law 640 = .ok (.iadd, 1) := by decide +kernel
theorem dL_law_641 : decode cL_law 641 = .ok (.iaload, 1) := by decide +kernel
theorem dL_law_642 : decode cL_law 642 = .ok (.aload_n 0, 1) := by decide +kernel
theorem dL_law_643 : decode cL_law 643 = .ok (.iload_n 3, 1) := by decide +kernel
theorem dL_law_644 : decode cL_law 644 = .ok (.iconst 2, 1) := by decide +kernel
theorem dL_law_645 : decode cL_law 645 = .ok (.iadd, 1) := by decide +kernel
theorem dL_law_646 : decode cL_law 646 = .ok (.iaload, 1) := by decide +kernel
theorem dL_law_647 : decode cL_law 647 = .ok (.aload_n 0, 1) := by decide +kernel
theorem dL_law_648 : decode cL_law 648 = .ok (.iload_n 3, 1) := by decide +kernel
theorem dL_law_649 : decode cL_law 649 = .ok (.iconst 3, 1) := by decide +kernel
theorem dL_law_650 : decode cL_law 650 = .ok (.iadd, 1) := by decide +kernel
theorem dL_law_651 : decode cL_law 651 = .ok (.iaload, 1) := by decide +kernel
theorem dL_law_652 : decode cL_law 652 = .ok (.aload_n 0, 1) := by decide +kernel
theorem dL_law_653 : decode cL_law 653 = .ok (.iload_n 3, 1) := by decide +kernel
theorem dL_law_654 : decode cL_law 654 = .ok (.iconst 4, 1) := by decide +kernel
theorem dL_law_655 : decode cL_law 655 = .ok (.iadd, 1) := by decide +kernel
theorem dL_law_656 : decode cL_law 656 = .ok (.iaload, 1) := by decide +kernel
theorem dL_law_657 : decode cL_law 657 = .ok (.invokevirtual 92, 3) := by decide +kernel
theorem dL_law_660 : decode cL_law 660 = .ok (.aload_n 2, 1) := by decide +kernel
theorem dL_law_661 : decode cL_law 661 = .ok (.aload_n 0, 1) := by decide +kernel
theorem dL_law_662 : decode cL_law 662 = .ok (.iload_n 3, 1) := by decide +kernel
theorem dL_law_663 : decode cL_law 663 = .ok (.iconst 1, 1) := by decide +kernel
theorem dL_law_664 : decode cL_law 664 = .ok (.iadd, 1) := by decide +kernel
theorem dL_law_665 : decode cL_law 665 = .ok (.iaload, 1) := by decide +kernel
theorem dL_law_666 : decode cL_law 666 = .ok (.aload_n 0, 1) := by decide +kernel
theorem dL_law_667 : decode cL_law 667 = .ok (.iload_n 3, 1) := by decide +kernel
theorem dL_law_668 : decode cL_law 668 = .ok (.iconst 2, 1) := by decide +kernel
theorem dL_law_669 : decode cL_law 669 = .ok (.iadd, 1) := by decide +kernel
theorem dL_law_670 : decode cL_law 670 = .ok (.iaload, 1) := by decide +kernel
theorem dL_law_671 : decode cL_law 671 = .ok (.aload_n 0, 1) := by decide +kernel
theorem dL_law_672 : decode cL_law 672 = .ok (.iload_n 3, 1) := by decide +kernel
theorem dL_law_673 : decode cL_law 673 = .ok (.iconst 3, 1) := by decide +kernel
theorem dL_law_674 : decode cL_law 674 = .ok (.iadd, 1) := by decide +kernel
theorem dL_law_675 : decode cL_law 675 = .ok (.iaload, 1) := by decide +kernel
theorem dL_law_676 : decode cL_law 676 = .ok (.aload_n 0, 1) := by decide +kernel
theorem dL_law_677 : decode cL_law 677 = .ok (.iload_n 3, 1) := by decide +kernel
theorem dL_law_678 : decode cL_law 678 = .ok (.iconst 4, 1) := by decide +kernel
theorem dL_law_679 : decode cL_law 679 = .ok (.iadd, 1) := by decide +kernel
theorem dL_law_680 : decode cL_law 680 = .ok (.iaload, 1) := by decide +kernel
theorem dL_law_681 : decode cL_law 681 = .ok (.invokevirtual 96, 3) := by decide +kernel
theorem dL_law_684 : decode cL_law 684 = .ok (.if_icmp .eq 266, 3) := by decide +kernel
theorem dL_law_687 : decode cL_law 687 = .ok (.iconst 0, 1) := by decide +kernel
theorem dL_law_688 : decode cL_law 688 = .ok (.ireturn, 1) := by decide +kernel
theorem dL_law_689 : decode cL_law 689 = .ok (.aload_n 1, 1) := by decide +kernel
theorem dL_law_690 : decode cL_law 690 = .ok (.invokevirtual 97, 3) := by decide +kernel
theorem dL_law_693 : decode cL_law 693 = .ok (.aload_n 2, 1) := by decide +kernel
theorem dL_law_694 : decode cL_law 694 = .ok (.invokevirtual 100, 3) := by decide +kernel
theorem dL_law_697 : decode cL_law 697 = .ok (.if_icmp .eq 253, 3) := by decide +kernel
theorem dL_law_700 : decode cL_law 700 = .ok (.iconst 0, 1) := by decide +kernel
theorem dL_law_701 : decode cL_law 701 = .ok (.ireturn, 1) := by decide +kernel
theorem dL_law_702 : decode cL_law 702 = .ok (.aload_n 1, 1) := by decide +kernel
theorem dL_law_703 : decode cL_law 703 = .ok (.aload_n 0, 1) := by decide +kernel
theorem dL_law_704 : decode cL_law 704 = .ok (.iload_n 3, 1) := by decide +kernel
theorem dL_law_705 : decode cL_law 705 = .ok (.iconst 1, 1) := by decide +kernel
theorem dL_law_706 : decode cL_law 706 = .ok (.iadd, 1) := by decide +kernel
theorem dL_law_707 : decode cL_law 707 = .ok (.iaload, 1) := by decide +kernel
theorem dL_law_708 : decode cL_law 708 = .ok (.invokevirtual 101, 3) := by decide +kernel
theorem dL_law_711 : decode cL_law 711 = .ok (.aload_n 2, 1) := by decide +kernel
theorem dL_law_712 : decode cL_law 712 = .ok (.aload_n 0, 1) := by decide +kernel
theorem dL_law_713 : decode cL_law 713 = .ok (.iload_n 3, 1) := by decide +kernel
theorem dL_law_714 : decode cL_law 714 = .ok (.iconst 1, 1) := by decide +kernel
theorem dL_law_715 : decode cL_law 715 = .ok (.iadd, 1) := by decide +kernel
theorem dL_law_716 : decode cL_law 716 = .ok (.iaload, 1) := by decide +kernel
theorem dL_law_717 : decode cL_law 717 = .ok (.invokevirtual 104, 3) := by decide +kernel
theorem dL_law_720 : decode cL_law 720 = .ok (.if_icmp .eq 230, 3) := by decide +kernel
theorem dL_law_723 : decode cL_law 723 = .ok (.iconst 0, 1) := by decide +kernel
theorem dL_law_724 : decode cL_law 724 = .ok (.ireturn, 1) := by decide +kernel
theorem dL_law_725 : decode cL_law 725 = .ok (.aload_n 1, 1) := by decide +kernel
theorem dL_law_726 : decode cL_law 726 = .ok (.aload_n 0, 1) := by decide +kernel
theorem dL_law_727 : decode cL_law 727 = .ok (.iload_n 3, 1) := by decide +kernel
theorem dL_law_728 : decode cL_law 728 = .ok (.iconst 1, 1) := by decide +kernel
theorem dL_law_729 : decode cL_law 729 = .ok (.iadd, 1) := by decide +kernel
theorem dL_law_730 : decode cL_law 730 = .ok (.iaload, 1) := by decide +kernel
theorem dL_law_731 : decode cL_law 731 = .ok (.aload_n 0, 1) := by decide +kernel
theorem dL_law_732 : decode cL_law 732 = .ok (.iload_n 3, 1) := by decide +kernel
theorem dL_law_733 : decode cL_law 733 = .ok (.iconst 2, 1) := by decide +kernel
theorem dL_law_734 : decode cL_law 734 = .ok (.iadd, 1) := by decide +kernel
theorem dL_law_735 : decode cL_law 735 = .ok (.iaload, 1) := by decide +kernel
theorem dL_law_736 : decode cL_law 736 = .ok (.aload_n 0, 1) := by decide +kernel
theorem dL_law_737 : decode cL_law 737 = .ok (.iload_n 3, 1) := by decide +kernel
theorem dL_law_738 : decode cL_law 738 = .ok (.iconst 3, 1) := by decide +kernel
theorem dL_law_739 : decode cL_law 739 = .ok (.iadd, 1) := by decide +kernel
theorem dL_law_740 : decode cL_law 740 = .ok (.iaload, 1) := by decide +kernel
theorem dL_law_741 : decode cL_law 741 = .ok (.invokevirtual 105, 3) := by decide +kernel
theorem dL_law_744 : decode cL_law 744 = .ok (.aload_n 2, 1) := by decide +kernel
theorem dL_law_745 : decode cL_law 745 = .ok (.aload_n 0, 1) := by decide +kernel
theorem dL_law_746 : decode cL_law 746 = .ok (.iload_n 3, 1) := by decide +kernel
theorem dL_law_747 : decode cL_law 747 = .ok (.iconst 1, 1) := by decide +kernel
theorem dL_law_748 : decode cL_law 748 = .ok (.iadd, 1) := by decide +kernel
theorem dL_law_749 : decode cL_law 749 = .ok (.iaload, 1) := by decide +kernel
theorem dL_law_750 : decode cL_law 750 = .ok (.aload_n 0, 1) := by decide +kernel
theorem dL_law_751 : decode cL_law 751 = .ok (.iload_n 3, 1) := by decide +kernel
theorem dL_law_752 : decode cL_law 752 = .ok (.iconst 2, 1) := by decide +kernel
theorem dL_law_753 : decode cL_law 753 = .ok (.iadd, 1) := by decide +kernel
theorem dL_law_754 : decode cL_law 754 = .ok (.iaload, 1) := by decide +kernel
theorem dL_law_755 : decode cL_law 755 = .ok (.aload_n 0, 1) := by decide +kernel
theorem dL_law_756 : decode cL_law 756 = .ok (.iload_n 3, 1) := by decide +kernel
theorem dL_law_757 : decode cL_law 757 = .ok (.iconst 3, 1) := by decide +kernel
theorem dL_law_758 : decode cL_law 758 = .ok (.iadd, 1) := by decide +kernel
theorem dL_law_759 : decode cL_law 759 = .ok (.iaload, 1) := by decide +kernel
theorem dL_law_760 : decode cL_law 760 = .ok (.invokevirtual 109, 3) := by decide +kernel
theorem dL_law_763 : decode cL_law 763 = .ok (.if_icmp .eq 187, 3) := by decide +kernel
theorem dL_law_766 : decode cL_law 766 = .ok (.iconst 0, 1) := by decide +kernel
theorem dL_law_767 : decode cL_law 767 = .ok (.ireturn, 1) := by decide +kernel
theorem dL_law_768 : decode cL_law 768 = .ok (.aload_n 1, 1) := by decide +kernel
theorem dL_law_769 : decode cL_law 769 = .ok (.aload_n 0, 1) := by decide +kernel
theorem dL_law_770 : decode cL_law 770 = .ok (.iload_n 3, 1) := by decide +kernel
theorem dL_law_771 : decode cL_law 771 = .ok (.iconst 1, 1) := by decide +kernel
theorem dL_law_772 : decode cL_law 772 = .ok (.iadd, 1) := by decide +kernel
theorem dL_law_773 : decode cL_law 773 = .ok (.iaload, 1) := by decide +kernel
theorem dL_law_774 : decode cL_law 774 = .ok (.aload_n 0, 1) := by decide +kernel
theorem dL_law_775 : decode cL_law 775 = .ok (.iload_n 3, 1) := by decide +kernel
theorem dL_law_776 : decode cL_law 776 = .ok (.iconst 2, 1) := by decide +kernel
theorem dL_law_777 : decode cL_law 777 = .ok (.iadd, 1) := by decide +kernel
theorem dL_law_778 : decode cL_law 778 = .ok (.iaload, 1) := by decide +kernel
theorem dL_law_779 : decode cL_law 779 = .ok (.aload_n 0, 1) := by decide +kernel
theorem dL_law_780 : decode cL_law 780 = .ok (.iload_n 3, 1) := by decide +kernel
theorem dL_law_781 : decode cL_law 781 = .ok (.iconst 3, 1) := by decide +kernel
theorem dL_law_782 : decode cL_law 782 = .ok (.iadd, 1) := by decide +kernel
theorem dL_law_783 : decode cL_law 783 = .ok (.iaload, 1) := by decide +kernel
theorem dL_law_784 : decode cL_law 784 = .ok (.ifCond .eq 7, 3) := by decide +kernel
theorem dL_law_787 : decode cL_law 787 = .ok (.iconst 1, 1) := by decide +kernel
theorem dL_law_788 : decode cL_law 788 = .ok (.goto 4, 3) := by decide +kernel
theorem dL_law_791 : decode cL_law 791 = .ok (.iconst 0, 1) := by decide +kernel
theorem dL_law_792 : decode cL_law 792 = .ok (.invokevirtual 110, 3) := by decide +kernel
theorem dL_law_795 : decode cL_law 795 = .ok (.aload_n 2, 1) := by decide +kernel
theorem dL_law_796 : decode cL_law 796 = .ok (.aload_n 0, 1) := by decide +kernel
theorem dL_law_797 : decode cL_law 797 = .ok (.iload_n 3, 1) := by decide +kernel
theorem dL_law_798 : decode cL_law 798 = .ok (.iconst 1, 1) := by decide +kernel
theorem dL_law_799 : decode cL_law 799 = .ok (.iadd, 1) := by decide +kernel
theorem dL_law_800 : decode cL_law 800 = .ok (.iaload, 1) := by decide +kernel
theorem dL_law_801 : decode cL_law 801 = .ok (.aload_n 0, 1) := by decide +kernel
theorem dL_law_802 : decode cL_law 802 = .ok (.iload_n 3, 1) := by decide +kernel
theorem dL_law_803 : decode cL_law 803 = .ok (.iconst 2, 1) := by decide +kernel
theorem dL_law_804 : decode cL_law 804 = .ok (.iadd, 1) := by decide +kernel
theorem dL_law_805 : decode cL_law 805 = .ok (.iaload, 1) := by decide +kernel
theorem dL_law_806 : decode cL_law 806 = .ok (.aload_n 0, 1) := by decide +kernel
theorem dL_law_807 : decode cL_law 807 = .ok (.iload_n 3, 1) := by decide +kernel
theorem dL_law_808 : decode cL_law 808 = .ok (.iconst 3, 1) := by decide +kernel
theorem dL_law_809 : decode cL_law 809 = .ok (.iadd, 1) := by decide +kernel
theorem dL_law_810 : decode cL_law 810 = .ok (.iaload, 1) := by decide +kernel
theorem dL_law_811 : decode cL_law 811 = .ok (.ifCond .eq 7, 3) := by decide +kernel
theorem dL_law_814 : decode cL_law 814 = .ok (.iconst 1, 1) := by decide +kernel
theorem dL_law_815 : decode cL_law 815 = .ok (.goto 4, 3) := by decide +kernel
theorem dL_law_818 : decode cL_law 818 = .ok (.iconst 0, 1) := by decide +kernel
theorem dL_law_819 : decode cL_law 819 = .ok (.invokevirtual 114, 3) := by decide +kernel
theorem dL_law_822 : decode cL_law 822 = .ok (.if_icmp .eq 128, 3) := by decide +kernel
theorem dL_law_825 : decode cL_law 825 = .ok (.iconst 0, 1) := by decide +kernel
theorem dL_law_826 : decode cL_law 826 = .ok (.ireturn, 1) := by decide +kernel
theorem dL_law_827 : decode cL_law 827 = .ok (.aload_n 1, 1) := by decide +kernel
theorem dL_law_828 : decode cL_law 828 = .ok (.aload_n 0, 1) := by decide +kernel
theorem dL_law_829 : decode cL_law 829 = .ok (.iload_n 3, 1) := by decide +kernel
theorem dL_law_830 : decode cL_law 830 = .ok (.iconst 1, 1) := by decide +kernel
theorem dL_law_831 : decode cL_law 831 = .ok (.iadd, 1) := by decide +kernel
theorem dL_law_832 : decode cL_law 832 = .ok (.iaload, 1) := by decide +kernel
theorem dL_law_833 : decode cL_law 833 = .ok (.i2l, 1) := by decide +kernel
theorem dL_law_834 : decode cL_law 834 = .ok (.bipush 32, 2) := by decide +kernel
theorem dL_law_836 : decode cL_law 836 = .ok (.lshl, 1) := by decide +kernel
theorem dL_law_837 : decode cL_law 837 = .ok (.aload_n 0, 1) := by decide +kernel
theorem dL_law_838 : decode cL_law 838 = .ok (.iload_n 3, 1) := by decide +kernel
theorem dL_law_839 : decode cL_law 839 = .ok (.iconst 2, 1) := by decide +kernel
theorem dL_law_840 : decode cL_law 840 = .ok (.iadd, 1) := by decide +kernel
theorem dL_law_841 : decode cL_law 841 = .ok (.iaload, 1) := by decide +kernel
theorem dL_law_842 : decode cL_law 842 = .ok (.i2l, 1) := by decide +kernel
theorem dL_law_843 : decode cL_law 843 = .ok (.ldc2_w 80, 3) := by decide +kernel
theorem dL_law_846 : decode cL_law 846 = .ok (.land, 1) := by decide +kernel
theorem dL_law_847 : decode cL_law 847 = .ok (.lor, 1) := by decide +kernel
theorem dL_law_848 : decode cL_law 848 = .ok (.invokevirtual 115, 3) := by decide +kernel
theorem dL_law_851 : decode cL_law 851 = .ok (.aload_n 2, 1) := by decide +kernel
theorem dL_law_852 : decode cL_law 852 = .ok (.aload_n 0, 1) := by decide +kernel
theorem dL_law_853 : decode cL_law 853 = .ok (.iload_n 3, 1) := by decide +kernel
theorem dL_law_854 : decode cL_law 854 = .ok (.iconst 1, 1) := by decide +kernel
theorem dL_law_855 : decode cL_law 855 = .ok (.iadd, 1) := by decide +kernel
theorem dL_law_856 : decode cL_law 856 = .ok (.iaload, 1) := by decide +kernel
theorem dL_law_857 : decode cL_law 857 = .ok (.i2l, 1) := by decide +kernel
theorem dL_law_858 : decode cL_law 858 = .ok (.bipush 32, 2) := by decide +kernel
theorem dL_law_860 : decode cL_law 860 = .ok (.lshl, 1) := by decide +kernel
theorem dL_law_861 : decode cL_law 861 = .ok (.aload_n 0, 1) := by decide +kernel
theorem dL_law_862 : decode cL_law 862 = .ok (.iload_n 3, 1) := by decide +kernel
theorem dL_law_863 : decode cL_law 863 = .ok (.iconst 2, 1) := by decide +kernel
theorem dL_law_864 : decode cL_law 864 = .ok (.iadd, 1) := by decide +kernel
theorem dL_law_865 : decode cL_law 865 = .ok (.iaload, 1) := by decide +kernel
theorem dL_law_866 : decode cL_law 866 = .ok (.i2l, 1) := by decide +kernel
theorem dL_law_867 : decode cL_law 867 = .ok (.ldc2_w 80, 3) := by decide +kernel
theorem dL_law_870 : decode cL_law 870 = .ok (.land, 1) := by decide +kernel
theorem dL_law_871 : decode cL_law 871 = .ok (.lor, 1) := by decide +kernel
theorem dL_law_872 : decode cL_law 872 = .ok (.invokevirtual 119, 3) := by decide +kernel
theorem dL_law_875 : decode cL_law 875 = .ok (.lcmp, 1) := by decide +kernel
theorem dL_law_876 : decode cL_law 876 = .ok (.ifCond .eq 74, 3) := by decide +kernel
theorem dL_law_879 : decode cL_law 879 = .ok (.iconst 0, 1) := by decide +kernel
theorem dL_law_880 : decode cL_law 880 = .ok (.ireturn, 1) := by decide +kernel
theorem dL_law_881 : decode cL_law 881 = .ok (.aload_n 1, 1) := by decide +kernel
theorem dL_law_882 : decode cL_law 882 = .ok (.aload_n 0, 1) := by decide +kernel
theorem dL_law_883 : decode cL_law 883 = .ok (.iload_n 3, 1) := by decide +kernel
theorem dL_law_884 : decode cL_law 884 = .ok (.iconst 1, 1) := by decide +kernel
theorem dL_law_885 : decode cL_law 885 = .ok (.iadd, 1) := by decide +kernel
theorem dL_law_886 : decode cL_law 886 = .ok (.iaload, 1) := by decide +kernel
theorem dL_law_887 : decode cL_law 887 = .ok (.invokevirtual 120, 3) := by decide +kernel
theorem dL_law_890 : decode cL_law 890 = .ok (.aload_n 2, 1) := by decide +kernel
theorem dL_law_891 : decode cL_law 891 = .ok (.aload_n 0, 1) := by decide +kernel
theorem dL_law_892 : decode cL_law 892 = .ok (.iload_n 3, 1) := by decide +kernel
theorem dL_law_893 : decode cL_law 893 = .ok (.iconst 1, 1) := by decide +kernel
theorem dL_law_894 : decode cL_law 894 = .ok (.iadd, 1) := by decide +kernel
theorem dL_law_895 : decode cL_law 895 = .ok (.iaload, 1) := by decide +kernel
theorem dL_law_896 : decode cL_law 896 = .ok (.invokevirtual 123, 3) := by decide +kernel
theorem dL_law_899 : decode cL_law 899 = .ok (.if_icmp .eq 51, 3) := by decide +kernel
theorem dL_law_902 : decode cL_law 902 = .ok (.iconst 0, 1) := by decide +kernel
theorem dL_law_903 : decode cL_law 903 = .ok (.ireturn, 1) := by decide +kernel
theorem dL_law_904 : decode cL_law 904 = .ok (.aload_n 1, 1) := by decide +kernel
theorem dL_law_905 : decode cL_law 905 = .ok (.aload_n 0, 1) := by decide +kernel
theorem dL_law_906 : decode cL_law 906 = .ok (.iload_n 3, 1) := by decide +kernel
theorem dL_law_907 : decode cL_law 907 = .ok (.iconst 1, 1) := by decide +kernel
theorem dL_law_908 : decode cL_law 908 = .ok (.iadd, 1) := by decide +kernel
theorem dL_law_909 : decode cL_law 909 = .ok (.iaload, 1) := by decide +kernel
theorem dL_law_910 : decode cL_law 910 = .ok (.invokevirtual 124, 3) := by decide +kernel
theorem dL_law_913 : decode cL_law 913 = .ok (.aload_n 2, 1) := by decide +kernel
theorem dL_law_914 : decode cL_law 914 = .ok (.aload_n 0, 1) := by decide +kernel
theorem dL_law_915 : decode cL_law 915 = .ok (.iload_n 3, 1) := by decide +kernel
theorem dL_law_916 : decode cL_law 916 = .ok (.iconst 1, 1) := by decide +kernel
theorem dL_law_917 : decode cL_law 917 = .ok (.iadd, 1) := by decide +kernel
theorem dL_law_918 : decode cL_law 918 = .ok (.iaload, 1) := by decide +kernel
theorem dL_law_919 : decode cL_law 919 = .ok (.invokevirtual 127, 3) := by decide +kernel
theorem dL_law_922 : decode cL_law 922 = .ok (.if_icmp .eq 28, 3) := by decide +kernel
theorem dL_law_925 : decode cL_law 925 = .ok (.iconst 0, 1) := by decide +kernel
theorem dL_law_926 : decode cL_law 926 = .ok (.ireturn, 1) := by decide +kernel
theorem dL_law_927 : decode cL_law 927 = .ok (.aload_n 1, 1) := by decide +kernel
theorem dL_law_928 : decode cL_law 928 = .ok (.aload_n 0, 1) := by decide +kernel
theorem dL_law_929 : decode cL_law 929 = .ok (.iload_n 3, 1) := by decide +kernel
theorem dL_law_930 : decode cL_law 930 = .ok (.iconst 1, 1) := by decide +kernel
theorem dL_law_931 : decode cL_law 931 = .ok (.iadd, 1) := by decide +kernel
theorem dL_law_932 : decode cL_law 932 = .ok (.iaload, 1) := by decide +kernel
theorem dL_law_933 : decode cL_law 933 = .ok (.invokevirtual 128, 3) := by decide +kernel
theorem dL_law_936 : decode cL_law 936 = .ok (.aload_n 2, 1) := by decide +kernel
theorem dL_law_937 : decode cL_law 937 = .ok (.aload_n 0, 1) := by decide +kernel
theorem dL_law_938 : decode cL_law 938 = .ok (.iload_n 3, 1) := by decide +kernel
theorem dL_law_939 : decode cL_law 939 = .ok (.iconst 1, 1) := by decide +kernel
theorem dL_law_940 : decode cL_law 940 = .ok (.iadd, 1) := by decide +kernel
theorem dL_law_941 : decode cL_law 941 = .ok (.iaload, 1) := by decide +kernel
theorem dL_law_942 : decode cL_law 942 = .ok (.invokevirtual 131, 3) := by decide +kernel
theorem dL_law_945 : decode cL_law 945 = .ok (.if_icmp .eq 5, 3) := by decide +kernel
theorem dL_law_948 : decode cL_law 948 = .ok (.iconst 0, 1) := by decide +kernel
theorem dL_law_949 : decode cL_law 949 = .ok (.ireturn, 1) := by decide +kernel
theorem dL_law_950 : decode cL_law 950 = .ok (.iinc 3 5, 3) := by decide +kernel
theorem dL_law_953 : decode cL_law 953 = .ok (.goto (-935), 3) := by decide +kernel
theorem dL_law_956 : decode cL_law 956 = .ok (.iconst 1, 1) := by decide +kernel
theorem dL_law_957 : decode cL_law 957 = .ok (.ireturn, 1) := by decide +kernel
end
section
theorem zz_t : True := trivial
end
