/-- the good words of the tables: every method has these, and its own code -/
def GW : List Cond := lw_tbl.filter goodWord
theorem gw_tbl {w : Cond} (h : w ∈ GW) : w ∈ lw_tbl := (List.mem_filter.mp h).1
theorem gw_in {big : List Cond} {w : Cond} (hb : ∀ x ∈ GW, x ∈ big) (h : w ∈ GW) : w ∈ big ∧ ((w.onTables && w.keeps) = true ∨ ∃ ty, w = .arrayClass ty) := ⟨hb w h, good_of_word (List.mem_filter.mp h).2⟩
theorem gw_t1 {w : Cond} (i : Nat) (h : tables_1_1[i]? = some w) (g : goodWord w = true) : w ∈ GW := List.mem_filter.mpr ⟨List.mem_append_right _ (by have h := List.mem_of_getElem? h; exact List.mem_append_left _ h), g⟩
theorem gw_t2 {w : Cond} (i : Nat) (h : tables_1_2[i]? = some w) (g : goodWord w = true) : w ∈ GW := List.mem_filter.mpr ⟨List.mem_append_right _ (by have h := List.mem_of_getElem? h; exact List.mem_append_right _ (List.mem_append_left _ h)), g⟩
theorem gw_t3 {w : Cond} (i : Nat) (h : tables_1_3[i]? = some w) (g : goodWord w = true) : w ∈ GW := List.mem_filter.mpr ⟨List.mem_append_right _ (by have h := List.mem_of_getElem? h; exact List.mem_append_right _ (List.mem_append_right _ (List.mem_append_left _ h))), g⟩
theorem gw_t4 {w : Cond} (i : Nat) (h : tables_1_4[i]? = some w) (g : goodWord w = true) : w ∈ GW := List.mem_filter.mpr ⟨List.mem_append_right _ (by have h := List.mem_of_getElem? h; exact List.mem_append_right _ (List.mem_append_right _ (List.mem_append_right _ h))), g⟩
theorem gw_s {w : Cond} (i : Nat) (h : (k2_sels lw_privs)[i]? = some w) (g : goodWord w = true) : w ∈ GW := List.mem_filter.mpr ⟨List.mem_append_left _ (List.mem_of_getElem? h), g⟩
theorem w_0 : (Jvm.Cond.initialized "CardHouseLaw") ∈ GW := gw_t1 0 rfl rfl
theorem w_1 : (Jvm.Cond.initialized "CardHouse") ∈ GW := gw_t1 1 rfl rfl
theorem w_2 : (Jvm.Cond.initialized "CardHouse$Text") ∈ GW := gw_t1 2 rfl rfl
theorem w_3 : (Jvm.Cond.initialized "CardHouse$Pile") ∈ GW := gw_t1 3 rfl rfl
theorem w_4 : (Jvm.Cond.initialized "CardHouse$Shelf") ∈ GW := gw_t1 4 rfl rfl
theorem w_5 : (Jvm.Cond.initialized "java/lang/Math") ∈ GW := gw_t1 5 rfl rfl
theorem w_6 : (Jvm.Cond.initialized "CardHouse$Contest") ∈ GW := gw_t1 6 rfl rfl
theorem w_7 : (Jvm.Cond.initialized "CardHouseModel") ∈ GW := gw_t1 7 rfl rfl
theorem w_8 : (Jvm.Cond.initialized "java/lang/Integer") ∈ GW := gw_t1 8 rfl rfl
theorem w_9 : (Jvm.Cond.classLink "CardHouseLaw" (7 : Nat) "CardHouse") ∈ GW := gw_t1 9 rfl rfl
theorem w_10 : (Jvm.Cond.instantiable "CardHouse" (12 : Nat)) ∈ GW := gw_t1 10 rfl rfl
theorem w_11 : (Jvm.Cond.methodLink "CardHouseLaw" (9 : Nat) ({ cls := "CardHouse", name := "<init>", desc := "()V" } : Jvm.MethodName)) ∈ GW := gw_t1 11 rfl rfl
theorem w_12 : (Jvm.Cond.instanceMethod ({ cls := "CardHouse", name := "<init>", desc := "()V" } : Jvm.MethodName)) ∈ GW := gw_t1 12 rfl rfl
theorem w_13 : (Jvm.Cond.code ({ cls := "CardHouse", name := "<init>", desc := "()V" } : Jvm.MethodName) prog_1_method_1_code (1 : Nat) (Option.none : Option Jvm.ClassFile.FieldType)) ∈ GW := gw_t1 13 rfl rfl
theorem w_14 : (Jvm.Cond.methodLink "CardHouse" (1 : Nat) ({ cls := "java/lang/Object", name := "<init>", desc := "()V" } : Jvm.MethodName)) ∈ GW := gw_t1 14 rfl rfl
theorem w_15 : (Jvm.Cond.instanceMethod ({ cls := "java/lang/Object", name := "<init>", desc := "()V" } : Jvm.MethodName)) ∈ GW := gw_t1 15 rfl rfl
theorem w_16 : (Jvm.Cond.code ({ cls := "java/lang/Object", name := "<init>", desc := "()V" } : Jvm.MethodName) object_method_1_code (1 : Nat) (Option.none : Option Jvm.ClassFile.FieldType)) ∈ GW := gw_t1 16 rfl rfl
theorem w_17 : (Jvm.Cond.classLink "CardHouse" (7 : Nat) "CardHouse$Text") ∈ GW := gw_t1 17 rfl rfl
theorem w_18 : (Jvm.Cond.instantiable "CardHouse$Text" (2 : Nat)) ∈ GW := gw_t1 18 rfl rfl
theorem w_19 : (Jvm.Cond.instanceMethod ({ cls := "CardHouse$Text", name := "<init>", desc := "()V" } : Jvm.MethodName)) ∈ GW := gw_t1 20 rfl rfl
theorem w_20 : (Jvm.Cond.code ({ cls := "CardHouse$Text", name := "<init>", desc := "()V" } : Jvm.MethodName) prog_5_method_1_code (1 : Nat) (Option.none : Option Jvm.ClassFile.FieldType)) ∈ GW := gw_t1 21 rfl rfl
theorem w_21 : (Jvm.Cond.methodLink "CardHouse$Text" (3 : Nat) ({ cls := "java/lang/Object", name := "<init>", desc := "()V" } : Jvm.MethodName)) ∈ GW := gw_t1 22 rfl rfl
theorem w_22 : (Jvm.Cond.fieldLink "CardHouse$Text" (9 : Nat) "CardHouse$Text" "letters" "[I") ∈ GW := gw_t1 23 rfl rfl
theorem w_23 : (Jvm.Cond.fieldLink "CardHouse$Text" (15 : Nat) "CardHouse$Text" "length" "I") ∈ GW := gw_t1 24 rfl rfl
theorem w_24 : (Jvm.Cond.laysFinal "CardHouse$Text" "CardHouse$Text" "letters" "[I") ∈ GW := gw_t1 26 rfl rfl
theorem w_25 : (Jvm.Cond.soleField "CardHouse$Text" "letters") ∈ GW := gw_t1 27 rfl rfl
theorem w_26 : (Jvm.Cond.lays "CardHouse$Text" "CardHouse$Text" "length" "I") ∈ GW := gw_t1 28 rfl rfl
theorem w_27 : (Jvm.Cond.soleField "CardHouse$Text" "length") ∈ GW := gw_t1 29 rfl rfl
theorem w_28 : (Jvm.Cond.superclass "CardHouse$Text" "java/lang/Object") ∈ GW := gw_t1 30 rfl rfl
theorem w_29 : (Jvm.Cond.arrayClass Jvm.ClassFile.FieldType.int) ∈ GW := gw_t1 31 rfl rfl
theorem w_30 : (Jvm.Cond.classLink "CardHouse" (16 : Nat) "CardHouse$Pile") ∈ GW := gw_t1 32 rfl rfl
theorem w_31 : (Jvm.Cond.instantiable "CardHouse$Pile" (5 : Nat)) ∈ GW := gw_t1 33 rfl rfl
theorem w_32 : (Jvm.Cond.instanceMethod ({ cls := "CardHouse$Pile", name := "<init>", desc := "()V" } : Jvm.MethodName)) ∈ GW := gw_t1 35 rfl rfl
theorem w_33 : (Jvm.Cond.code ({ cls := "CardHouse$Pile", name := "<init>", desc := "()V" } : Jvm.MethodName) prog_3_method_1_code (1 : Nat) (Option.none : Option Jvm.ClassFile.FieldType)) ∈ GW := gw_t1 36 rfl rfl
theorem w_34 : (Jvm.Cond.methodLink "CardHouse$Pile" (3 : Nat) ({ cls := "java/lang/Object", name := "<init>", desc := "()V" } : Jvm.MethodName)) ∈ GW := gw_t1 37 rfl rfl
theorem w_35 : (Jvm.Cond.fieldLink "CardHouse$Pile" (18 : Nat) "CardHouse$Pile" "there" "I") ∈ GW := gw_t1 38 rfl rfl
theorem w_36 : (Jvm.Cond.fieldLink "CardHouse$Pile" (22 : Nat) "CardHouse$Pile" "kinds" "I") ∈ GW := gw_t1 41 rfl rfl
theorem w_37 : (Jvm.Cond.fieldLink "CardHouse$Pile" (25 : Nat) "CardHouse$Pile" "fell" "I") ∈ GW := gw_t1 43 rfl rfl
theorem w_38 : (Jvm.Cond.fieldLink "CardHouse$Pile" (9 : Nat) "CardHouse$Pile" "cards" "[I") ∈ GW := gw_t1 46 rfl rfl
theorem w_39 : (Jvm.Cond.fieldLink "CardHouse$Pile" (15 : Nat) "CardHouse$Pile" "loads" "[I") ∈ GW := gw_t1 48 rfl rfl
theorem w_40 : (Jvm.Cond.lays "CardHouse$Pile" "CardHouse$Pile" "there" "I") ∈ GW := gw_t1 49 rfl rfl
theorem w_41 : (Jvm.Cond.soleField "CardHouse$Pile" "there") ∈ GW := gw_t1 50 rfl rfl
theorem w_42 : (Jvm.Cond.lays "CardHouse$Pile" "CardHouse$Pile" "kinds" "I") ∈ GW := gw_t1 51 rfl rfl
theorem w_43 : (Jvm.Cond.soleField "CardHouse$Pile" "kinds") ∈ GW := gw_t1 52 rfl rfl
theorem w_44 : (Jvm.Cond.lays "CardHouse$Pile" "CardHouse$Pile" "fell" "I") ∈ GW := gw_t1 53 rfl rfl
theorem w_45 : (Jvm.Cond.soleField "CardHouse$Pile" "fell") ∈ GW := gw_t1 54 rfl rfl
theorem w_46 : (Jvm.Cond.laysFinal "CardHouse$Pile" "CardHouse$Pile" "cards" "[I") ∈ GW := gw_t1 55 rfl rfl
theorem w_47 : (Jvm.Cond.soleField "CardHouse$Pile" "cards") ∈ GW := gw_t1 56 rfl rfl
theorem w_48 : (Jvm.Cond.laysFinal "CardHouse$Pile" "CardHouse$Pile" "loads" "[I") ∈ GW := gw_t1 57 rfl rfl
theorem w_49 : (Jvm.Cond.soleField "CardHouse$Pile" "loads") ∈ GW := gw_t1 58 rfl rfl
theorem w_50 : (Jvm.Cond.superclass "CardHouse$Pile" "java/lang/Object") ∈ GW := gw_t1 59 rfl rfl
theorem w_51 : (Jvm.Cond.classLink "CardHouse" (26 : Nat) "CardHouse$Shelf") ∈ GW := gw_t1 60 rfl rfl
theorem w_52 : (Jvm.Cond.instantiable "CardHouse$Shelf" (4 : Nat)) ∈ GW := gw_t1 61 rfl rfl
theorem w_53 : (Jvm.Cond.methodLink "CardHouse" (28 : Nat) ({ cls := "CardHouse$Shelf", name := "<init>", desc := "(I)V" } : Jvm.MethodName)) ∈ GW := gw_t1 62 rfl rfl
theorem w_54 : (Jvm.Cond.instanceMethod ({ cls := "CardHouse$Shelf", name := "<init>", desc := "(I)V" } : Jvm.MethodName)) ∈ GW := gw_t1 63 rfl rfl
theorem w_55 : (Jvm.Cond.code ({ cls := "CardHouse$Shelf", name := "<init>", desc := "(I)V" } : Jvm.MethodName) prog_4_method_1_code (2 : Nat) (Option.none : Option Jvm.ClassFile.FieldType)) ∈ GW := gw_t1 64 rfl rfl
theorem w_56 : (Jvm.Cond.methodLink "CardHouse$Shelf" (1 : Nat) ({ cls := "java/lang/Object", name := "<init>", desc := "()V" } : Jvm.MethodName)) ∈ GW := gw_t1 65 rfl rfl
theorem w_57 : (Jvm.Cond.methodLink "CardHouse$Shelf" (7 : Nat) ({ cls := "java/lang/Math", name := "max", desc := "(II)I" } : Jvm.MethodName)) ∈ GW := gw_t1 66 rfl rfl
theorem w_58 : (Jvm.Cond.static ({ cls := "java/lang/Math", name := "max", desc := "(II)I" } : Jvm.MethodName)) ∈ GW := gw_t1 67 rfl rfl
theorem w_59 : (Jvm.Cond.code ({ cls := "java/lang/Math", name := "max", desc := "(II)I" } : Jvm.MethodName) prog_9_method_65_code (2 : Nat) (Option.some Jvm.ClassFile.FieldType.int)) ∈ GW := gw_t1 68 rfl rfl
theorem w_60 : (Jvm.Cond.fieldLink "CardHouse$Shelf" (13 : Nat) "CardHouse$Shelf" "size" "I") ∈ GW := gw_t1 69 rfl rfl
theorem w_61 : (Jvm.Cond.fieldLink "CardHouse$Shelf" (19 : Nat) "CardHouse$Shelf" "there" "[I") ∈ GW := gw_t1 70 rfl rfl
theorem w_62 : (Jvm.Cond.fieldLink "CardHouse$Shelf" (23 : Nat) "CardHouse$Shelf" "kinds" "[I") ∈ GW := gw_t1 71 rfl rfl
theorem w_63 : (Jvm.Cond.fieldLink "CardHouse$Shelf" (26 : Nat) "CardHouse$Shelf" "fell" "[I") ∈ GW := gw_t1 72 rfl rfl
theorem w_64 : (Jvm.Cond.laysFinal "CardHouse$Shelf" "CardHouse$Shelf" "size" "I") ∈ GW := gw_t1 73 rfl rfl
theorem w_65 : (Jvm.Cond.soleField "CardHouse$Shelf" "size") ∈ GW := gw_t1 74 rfl rfl
theorem w_66 : (Jvm.Cond.laysFinal "CardHouse$Shelf" "CardHouse$Shelf" "there" "[I") ∈ GW := gw_t1 75 rfl rfl
theorem w_67 : (Jvm.Cond.soleField "CardHouse$Shelf" "there") ∈ GW := gw_t1 76 rfl rfl
theorem w_68 : (Jvm.Cond.laysFinal "CardHouse$Shelf" "CardHouse$Shelf" "kinds" "[I") ∈ GW := gw_t1 77 rfl rfl
theorem w_69 : (Jvm.Cond.soleField "CardHouse$Shelf" "kinds") ∈ GW := gw_t1 78 rfl rfl
theorem w_70 : (Jvm.Cond.laysFinal "CardHouse$Shelf" "CardHouse$Shelf" "fell" "[I") ∈ GW := gw_t1 79 rfl rfl
theorem w_71 : (Jvm.Cond.soleField "CardHouse$Shelf" "fell") ∈ GW := gw_t1 80 rfl rfl
theorem w_72 : (Jvm.Cond.superclass "CardHouse$Shelf" "java/lang/Object") ∈ GW := gw_t1 81 rfl rfl
theorem w_73 : (Jvm.Cond.classLink "CardHouse" (38 : Nat) "CardHouse$Contest") ∈ GW := gw_t1 82 rfl rfl
theorem w_74 : (Jvm.Cond.instantiable "CardHouse$Contest" (2 : Nat)) ∈ GW := gw_t1 83 rfl rfl
theorem w_75 : (Jvm.Cond.instanceMethod ({ cls := "CardHouse$Contest", name := "<init>", desc := "()V" } : Jvm.MethodName)) ∈ GW := gw_t1 85 rfl rfl
theorem w_76 : (Jvm.Cond.code ({ cls := "CardHouse$Contest", name := "<init>", desc := "()V" } : Jvm.MethodName) prog_2_method_1_code (1 : Nat) (Option.none : Option Jvm.ClassFile.FieldType)) ∈ GW := gw_t1 86 rfl rfl
theorem w_77 : (Jvm.Cond.methodLink "CardHouse$Contest" (3 : Nat) ({ cls := "java/lang/Object", name := "<init>", desc := "()V" } : Jvm.MethodName)) ∈ GW := gw_t1 87 rfl rfl
theorem w_78 : (Jvm.Cond.fieldLink "CardHouse$Contest" (9 : Nat) "CardHouse$Contest" "firstHas" "[I") ∈ GW := gw_t1 88 rfl rfl
theorem w_79 : (Jvm.Cond.fieldLink "CardHouse$Contest" (15 : Nat) "CardHouse$Contest" "secondHas" "[I") ∈ GW := gw_t1 89 rfl rfl
theorem w_80 : (Jvm.Cond.laysFinal "CardHouse$Contest" "CardHouse$Contest" "firstHas" "[I") ∈ GW := gw_t1 90 rfl rfl
theorem w_81 : (Jvm.Cond.soleField "CardHouse$Contest" "firstHas") ∈ GW := gw_t1 91 rfl rfl
theorem w_82 : (Jvm.Cond.laysFinal "CardHouse$Contest" "CardHouse$Contest" "secondHas" "[I") ∈ GW := gw_t1 92 rfl rfl
theorem w_83 : (Jvm.Cond.soleField "CardHouse$Contest" "secondHas") ∈ GW := gw_t1 93 rfl rfl
theorem w_84 : (Jvm.Cond.superclass "CardHouse$Contest" "java/lang/Object") ∈ GW := gw_t1 94 rfl rfl
theorem w_85 : (Jvm.Cond.fieldLink "CardHouse" (10 : Nat) "CardHouse" "text" "LCardHouse$Text;") ∈ GW := gw_t1 95 rfl rfl
theorem w_86 : (Jvm.Cond.fieldLink "CardHouse" (19 : Nat) "CardHouse" "now" "LCardHouse$Pile;") ∈ GW := gw_t1 96 rfl rfl
theorem w_87 : (Jvm.Cond.fieldLink "CardHouse" (23 : Nat) "CardHouse" "trial" "LCardHouse$Pile;") ∈ GW := gw_t1 97 rfl rfl
theorem w_88 : (Jvm.Cond.fieldLink "CardHouse" (31 : Nat) "CardHouse" "acts" "LCardHouse$Shelf;") ∈ GW := gw_t1 98 rfl rfl
theorem w_89 : (Jvm.Cond.fieldLink "CardHouse" (35 : Nat) "CardHouse" "slots" "LCardHouse$Shelf;") ∈ GW := gw_t1 99 rfl rfl
theorem w_90 : (Jvm.Cond.fieldLink "CardHouse" (41 : Nat) "CardHouse" "contest" "LCardHouse$Contest;") ∈ GW := gw_t1 100 rfl rfl
theorem w_91 : (Jvm.Cond.fieldLink "CardHouse" (73 : Nat) "CardHouse" "actCount" "I") ∈ GW := gw_t1 101 rfl rfl
theorem w_92 : (Jvm.Cond.fieldLink "CardHouse" (76 : Nat) "CardHouse" "keptSlots" "I") ∈ GW := gw_t1 102 rfl rfl
theorem w_93 : (Jvm.Cond.fieldLink "CardHouse" (91 : Nat) "CardHouse" "heldCount" "I") ∈ GW := gw_t1 103 rfl rfl
theorem w_94 : (Jvm.Cond.fieldLink "CardHouse" (45 : Nat) "CardHouse" "oneKinds" "I") ∈ GW := gw_t1 104 rfl rfl
theorem w_95 : (Jvm.Cond.fieldLink "CardHouse" (49 : Nat) "CardHouse" "otherKinds" "I") ∈ GW := gw_t1 105 rfl rfl
theorem w_96 : (Jvm.Cond.fieldLink "CardHouse" (231 : Nat) "CardHouse" "theSeed" "J") ∈ GW := gw_t1 106 rfl rfl
theorem w_97 : (Jvm.Cond.laysFinal "CardHouse" "CardHouse" "text" "LCardHouse$Text;") ∈ GW := gw_t1 107 rfl rfl
theorem w_98 : (Jvm.Cond.soleField "CardHouse" "text") ∈ GW := gw_t1 108 rfl rfl
theorem w_99 : (Jvm.Cond.laysFinal "CardHouse" "CardHouse" "now" "LCardHouse$Pile;") ∈ GW := gw_t1 109 rfl rfl
theorem w_100 : (Jvm.Cond.soleField "CardHouse" "now") ∈ GW := gw_t1 110 rfl rfl
theorem w_101 : (Jvm.Cond.laysFinal "CardHouse" "CardHouse" "trial" "LCardHouse$Pile;") ∈ GW := gw_t1 111 rfl rfl
theorem w_102 : (Jvm.Cond.soleField "CardHouse" "trial") ∈ GW := gw_t1 112 rfl rfl
theorem w_103 : (Jvm.Cond.laysFinal "CardHouse" "CardHouse" "acts" "LCardHouse$Shelf;") ∈ GW := gw_t1 113 rfl rfl
theorem w_104 : (Jvm.Cond.soleField "CardHouse" "acts") ∈ GW := gw_t1 114 rfl rfl
theorem w_105 : (Jvm.Cond.laysFinal "CardHouse" "CardHouse" "slots" "LCardHouse$Shelf;") ∈ GW := gw_t1 115 rfl rfl
theorem w_106 : (Jvm.Cond.soleField "CardHouse" "slots") ∈ GW := gw_t1 116 rfl rfl
theorem w_107 : (Jvm.Cond.laysFinal "CardHouse" "CardHouse" "contest" "LCardHouse$Contest;") ∈ GW := gw_t1 117 rfl rfl
theorem w_108 : (Jvm.Cond.soleField "CardHouse" "contest") ∈ GW := gw_t1 118 rfl rfl
theorem w_109 : (Jvm.Cond.lays "CardHouse" "CardHouse" "actCount" "I") ∈ GW := gw_t1 119 rfl rfl
theorem w_110 : (Jvm.Cond.soleField "CardHouse" "actCount") ∈ GW := gw_t1 120 rfl rfl
theorem w_111 : (Jvm.Cond.lays "CardHouse" "CardHouse" "keptSlots" "I") ∈ GW := gw_t1 121 rfl rfl
theorem w_112 : (Jvm.Cond.soleField "CardHouse" "keptSlots") ∈ GW := gw_t1 122 rfl rfl
theorem w_113 : (Jvm.Cond.lays "CardHouse" "CardHouse" "heldCount" "I") ∈ GW := gw_t1 123 rfl rfl
theorem w_114 : (Jvm.Cond.soleField "CardHouse" "heldCount") ∈ GW := gw_t1 124 rfl rfl
theorem w_115 : (Jvm.Cond.lays "CardHouse" "CardHouse" "oneKinds" "I") ∈ GW := gw_t1 125 rfl rfl
theorem w_116 : (Jvm.Cond.soleField "CardHouse" "oneKinds") ∈ GW := gw_t1 126 rfl rfl
theorem w_117 : (Jvm.Cond.lays "CardHouse" "CardHouse" "otherKinds" "I") ∈ GW := gw_t1 127 rfl rfl
theorem w_118 : (Jvm.Cond.soleField "CardHouse" "otherKinds") ∈ GW := gw_t1 128 rfl rfl
theorem w_119 : (Jvm.Cond.lays "CardHouse" "CardHouse" "theSeed" "J") ∈ GW := gw_t1 129 rfl rfl
theorem w_120 : (Jvm.Cond.soleField "CardHouse" "theSeed") ∈ GW := gw_t1 130 rfl rfl
theorem w_121 : (Jvm.Cond.superclass "CardHouse" "java/lang/Object") ∈ GW := gw_t1 131 rfl rfl
theorem w_122 : (Jvm.Cond.methodLink "CardHouseLaw" (13 : Nat) ({ cls := "CardHouse", name := "write", desc := "(I)I" } : Jvm.MethodName)) ∈ GW := gw_t1 132 rfl rfl
theorem w_123 : (Jvm.Cond.instanceMethod ({ cls := "CardHouse", name := "write", desc := "(I)I" } : Jvm.MethodName)) ∈ GW := gw_t1 133 rfl rfl
theorem w_124 : (Jvm.Cond.selects "CardHouse" ({ cls := "CardHouse", name := "write", desc := "(I)I" } : Jvm.MethodName) ({ cls := "CardHouse", name := "write", desc := "(I)I" } : Jvm.MethodName)) ∈ GW := gw_t1 134 rfl rfl
theorem w_125 : (Jvm.Cond.code ({ cls := "CardHouse", name := "write", desc := "(I)I" } : Jvm.MethodName) prog_1_method_2_code (2 : Nat) (Option.some Jvm.ClassFile.FieldType.int)) ∈ GW := gw_t1 135 rfl rfl
theorem w_126 : (Jvm.Cond.methodLink "CardHouse" (55 : Nat) ({ cls := "CardHouse$Text", name := "append", desc := "(I)V" } : Jvm.MethodName)) ∈ GW := gw_t1 136 rfl rfl
theorem w_127 : (Jvm.Cond.instanceMethod ({ cls := "CardHouse$Text", name := "append", desc := "(I)V" } : Jvm.MethodName)) ∈ GW := gw_t1 137 rfl rfl
theorem w_128 : (Jvm.Cond.selects "CardHouse$Text" ({ cls := "CardHouse$Text", name := "append", desc := "(I)V" } : Jvm.MethodName) ({ cls := "CardHouse$Text", name := "append", desc := "(I)V" } : Jvm.MethodName)) ∈ GW := gw_t1 138 rfl rfl
theorem w_129 : (Jvm.Cond.code ({ cls := "CardHouse$Text", name := "append", desc := "(I)V" } : Jvm.MethodName) prog_5_method_2_code (2 : Nat) (Option.none : Option Jvm.ClassFile.FieldType)) ∈ GW := gw_t1 139 rfl rfl
theorem w_130 : (Jvm.Cond.methodLink "CardHouseLaw" (18 : Nat) ({ cls := "CardHouse", name := "wipe", desc := "()I" } : Jvm.MethodName)) ∈ GW := gw_t1 140 rfl rfl
theorem w_131 : (Jvm.Cond.instanceMethod ({ cls := "CardHouse", name := "wipe", desc := "()I" } : Jvm.MethodName)) ∈ GW := gw_t1 141 rfl rfl
theorem w_132 : (Jvm.Cond.selects "CardHouse" ({ cls := "CardHouse", name := "wipe", desc := "()I" } : Jvm.MethodName) ({ cls := "CardHouse", name := "wipe", desc := "()I" } : Jvm.MethodName)) ∈ GW := gw_t1 142 rfl rfl
theorem w_133 : (Jvm.Cond.code ({ cls := "CardHouse", name := "wipe", desc := "()I" } : Jvm.MethodName) prog_1_method_3_code (2 : Nat) (Option.some Jvm.ClassFile.FieldType.int)) ∈ GW := gw_t1 143 rfl rfl
theorem w_134 : (Jvm.Cond.methodLink "CardHouseLaw" (23 : Nat) ({ cls := "CardHouse", name := "fault", desc := "()I" } : Jvm.MethodName)) ∈ GW := gw_t1 144 rfl rfl
theorem w_135 : (Jvm.Cond.instanceMethod ({ cls := "CardHouse", name := "fault", desc := "()I" } : Jvm.MethodName)) ∈ GW := gw_t1 145 rfl rfl
theorem w_136 : (Jvm.Cond.selects "CardHouse" ({ cls := "CardHouse", name := "fault", desc := "()I" } : Jvm.MethodName) ({ cls := "CardHouse", name := "fault", desc := "()I" } : Jvm.MethodName)) ∈ GW := gw_t1 146 rfl rfl
theorem w_137 : (Jvm.Cond.code ({ cls := "CardHouse", name := "fault", desc := "()I" } : Jvm.MethodName) prog_1_method_4_code (1 : Nat) (Option.some Jvm.ClassFile.FieldType.int)) ∈ GW := gw_t1 147 rfl rfl
theorem w_138 : (Jvm.Cond.methodLink "CardHouse" (58 : Nat) ({ cls := "CardHouse$Text", name := "readInto", desc := "(LCardHouse$Pile;)I" } : Jvm.MethodName)) ∈ GW := gw_t1 148 rfl rfl
theorem w_139 : (Jvm.Cond.instanceMethod ({ cls := "CardHouse$Text", name := "readInto", desc := "(LCardHouse$Pile;)I" } : Jvm.MethodName)) ∈ GW := gw_t1 149 rfl rfl
theorem w_140 : (Jvm.Cond.selects "CardHouse$Text" ({ cls := "CardHouse$Text", name := "readInto", desc := "(LCardHouse$Pile;)I" } : Jvm.MethodName) ({ cls := "CardHouse$Text", name := "readInto", desc := "(LCardHouse$Pile;)I" } : Jvm.MethodName)) ∈ GW := gw_t1 150 rfl rfl
theorem w_141 : (Jvm.Cond.code ({ cls := "CardHouse$Text", name := "readInto", desc := "(LCardHouse$Pile;)I" } : Jvm.MethodName) prog_5_method_3_code (3 : Nat) (Option.some Jvm.ClassFile.FieldType.int)) ∈ GW := gw_t1 151 rfl rfl
theorem w_142 : (Jvm.Cond.methodLink "CardHouse$Text" (19 : Nat) ({ cls := "CardHouse$Pile", name := "clear", desc := "()V" } : Jvm.MethodName)) ∈ GW := gw_t1 152 rfl rfl
theorem w_143 : (Jvm.Cond.instanceMethod ({ cls := "CardHouse$Pile", name := "clear", desc := "()V" } : Jvm.MethodName)) ∈ GW := gw_t1 153 rfl rfl
theorem w_144 : (Jvm.Cond.selects "CardHouse$Pile" ({ cls := "CardHouse$Pile", name := "clear", desc := "()V" } : Jvm.MethodName) ({ cls := "CardHouse$Pile", name := "clear", desc := "()V" } : Jvm.MethodName)) ∈ GW := gw_t1 154 rfl rfl
theorem w_145 : (Jvm.Cond.code ({ cls := "CardHouse$Pile", name := "clear", desc := "()V" } : Jvm.MethodName) prog_3_method_2_code (2 : Nat) (Option.none : Option Jvm.ClassFile.FieldType)) ∈ GW := gw_t1 155 rfl rfl
theorem w_146 : (Jvm.Cond.methodLink "CardHouse$Text" (24 : Nat) ({ cls := "CardHouse$Text", name := "readLetter", desc := "(LCardHouse$Pile;II)Z" } : Jvm.MethodName)) ∈ GW := gw_t1 156 rfl rfl
theorem w_147 : (Jvm.Cond.instanceMethod ({ cls := "CardHouse$Text", name := "readLetter", desc := "(LCardHouse$Pile;II)Z" } : Jvm.MethodName)) ∈ GW := gw_t1 158 rfl rfl
theorem w_148 : (Jvm.Cond.code ({ cls := "CardHouse$Text", name := "readLetter", desc := "(LCardHouse$Pile;II)Z" } : Jvm.MethodName) prog_5_method_4_code (4 : Nat) (Option.some Jvm.ClassFile.FieldType.boolean)) ∈ GW := gw_t1 159 rfl rfl
theorem w_149 : (Jvm.Cond.methodLink "CardHouse$Text" (28 : Nat) ({ cls := "CardHouse$Text", name := "readFigure", desc := "(LCardHouse$Pile;II)Z" } : Jvm.MethodName)) ∈ GW := gw_t1 160 rfl rfl
theorem w_150 : (Jvm.Cond.static ({ cls := "CardHouse$Text", name := "readFigure", desc := "(LCardHouse$Pile;II)Z" } : Jvm.MethodName)) ∈ GW := gw_t1 161 rfl rfl
theorem w_151 : (Jvm.Cond.code ({ cls := "CardHouse$Text", name := "readFigure", desc := "(LCardHouse$Pile;II)Z" } : Jvm.MethodName) prog_5_method_5_code (3 : Nat) (Option.some Jvm.ClassFile.FieldType.boolean)) ∈ GW := gw_t1 162 rfl rfl
theorem w_152 : (Jvm.Cond.static ({ cls := "CardHouse", name := "isKind", desc := "(I)Z" } : Jvm.MethodName)) ∈ GW := gw_t1 164 rfl rfl
theorem w_153 : (Jvm.Cond.code ({ cls := "CardHouse", name := "isKind", desc := "(I)Z" } : Jvm.MethodName) prog_1_method_36_code (1 : Nat) (Option.some Jvm.ClassFile.FieldType.boolean)) ∈ GW := gw_t1 165 rfl rfl
theorem w_154 : (Jvm.Cond.methodLink "CardHouse$Text" (31 : Nat) ({ cls := "CardHouse$Text", name := "canAnyBeTold", desc := "(LCardHouse$Pile;)Z" } : Jvm.MethodName)) ∈ GW := gw_t1 166 rfl rfl
theorem w_155 : (Jvm.Cond.static ({ cls := "CardHouse$Text", name := "canAnyBeTold", desc := "(LCardHouse$Pile;)Z" } : Jvm.MethodName)) ∈ GW := gw_t1 167 rfl rfl
theorem w_156 : (Jvm.Cond.code ({ cls := "CardHouse$Text", name := "canAnyBeTold", desc := "(LCardHouse$Pile;)Z" } : Jvm.MethodName) prog_5_method_6_code (3 : Nat) (Option.some Jvm.ClassFile.FieldType.boolean)) ∈ GW := gw_t1 168 rfl rfl
theorem w_157 : (Jvm.Cond.methodLink "CardHouse$Text" (35 : Nat) ({ cls := "CardHouse$Pile", name := "mostCardsLeft", desc := "()I" } : Jvm.MethodName)) ∈ GW := gw_t1 169 rfl rfl
theorem w_158 : (Jvm.Cond.instanceMethod ({ cls := "CardHouse$Pile", name := "mostCardsLeft", desc := "()I" } : Jvm.MethodName)) ∈ GW := gw_t1 170 rfl rfl
theorem w_159 : (Jvm.Cond.selects "CardHouse$Pile" ({ cls := "CardHouse$Pile", name := "mostCardsLeft", desc := "()I" } : Jvm.MethodName) ({ cls := "CardHouse$Pile", name := "mostCardsLeft", desc := "()I" } : Jvm.MethodName)) ∈ GW := gw_t1 171 rfl rfl
theorem w_160 : (Jvm.Cond.code ({ cls := "CardHouse$Pile", name := "mostCardsLeft", desc := "()I" } : Jvm.MethodName) prog_3_method_10_code (3 : Nat) (Option.some Jvm.ClassFile.FieldType.int)) ∈ GW := gw_t1 172 rfl rfl
theorem w_161 : (Jvm.Cond.methodLink "CardHouse$Pile" (53 : Nat) ({ cls := "CardHouse$Pile", name := "cardsLeft", desc := "(I)I" } : Jvm.MethodName)) ∈ GW := gw_t1 173 rfl rfl
theorem w_162 : (Jvm.Cond.instanceMethod ({ cls := "CardHouse$Pile", name := "cardsLeft", desc := "(I)I" } : Jvm.MethodName)) ∈ GW := gw_t1 174 rfl rfl
theorem w_163 : (Jvm.Cond.selects "CardHouse$Pile" ({ cls := "CardHouse$Pile", name := "cardsLeft", desc := "(I)I" } : Jvm.MethodName) ({ cls := "CardHouse$Pile", name := "cardsLeft", desc := "(I)I" } : Jvm.MethodName)) ∈ GW := gw_t1 175 rfl rfl
theorem w_164 : (Jvm.Cond.code ({ cls := "CardHouse$Pile", name := "cardsLeft", desc := "(I)I" } : Jvm.MethodName) prog_3_method_9_code (4 : Nat) (Option.some Jvm.ClassFile.FieldType.int)) ∈ GW := gw_t1 176 rfl rfl
theorem w_165 : (Jvm.Cond.methodLink "CardHouse$Pile" (43 : Nat) ({ cls := "CardHouse$Pile", name := "has", desc := "(I)Z" } : Jvm.MethodName)) ∈ GW := gw_t1 178 rfl rfl
theorem w_166 : (Jvm.Cond.instanceMethod ({ cls := "CardHouse$Pile", name := "has", desc := "(I)Z" } : Jvm.MethodName)) ∈ GW := gw_t1 179 rfl rfl
theorem w_167 : (Jvm.Cond.selects "CardHouse$Pile" ({ cls := "CardHouse$Pile", name := "has", desc := "(I)Z" } : Jvm.MethodName) ({ cls := "CardHouse$Pile", name := "has", desc := "(I)Z" } : Jvm.MethodName)) ∈ GW := gw_t1 180 rfl rfl
theorem w_168 : (Jvm.Cond.code ({ cls := "CardHouse$Pile", name := "has", desc := "(I)Z" } : Jvm.MethodName) prog_3_method_5_code (2 : Nat) (Option.some Jvm.ClassFile.FieldType.boolean)) ∈ GW := gw_t1 181 rfl rfl
theorem w_169 : (Jvm.Cond.methodLink "CardHouse$Pile" (37 : Nat) ({ cls := "CardHouse$Pile", name := "kindOf", desc := "(I)I" } : Jvm.MethodName)) ∈ GW := gw_t1 182 rfl rfl
theorem w_170 : (Jvm.Cond.instanceMethod ({ cls := "CardHouse$Pile", name := "kindOf", desc := "(I)I" } : Jvm.MethodName)) ∈ GW := gw_t1 183 rfl rfl
theorem w_171 : (Jvm.Cond.selects "CardHouse$Pile" ({ cls := "CardHouse$Pile", name := "kindOf", desc := "(I)I" } : Jvm.MethodName) ({ cls := "CardHouse$Pile", name := "kindOf", desc := "(I)I" } : Jvm.MethodName)) ∈ GW := gw_t1 184 rfl rfl
theorem w_172 : (Jvm.Cond.code ({ cls := "CardHouse$Pile", name := "kindOf", desc := "(I)I" } : Jvm.MethodName) prog_3_method_6_code (2 : Nat) (Option.some Jvm.ClassFile.FieldType.int)) ∈ GW := gw_t1 185 rfl rfl
theorem w_173 : (Jvm.Cond.static ({ cls := "CardHouse", name := "cardsOf", desc := "(I)I" } : Jvm.MethodName)) ∈ GW := gw_t1 187 rfl rfl
theorem w_174 : (Jvm.Cond.code ({ cls := "CardHouse", name := "cardsOf", desc := "(I)I" } : Jvm.MethodName) prog_1_method_40_code (1 : Nat) (Option.some Jvm.ClassFile.FieldType.int)) ∈ GW := gw_t1 188 rfl rfl
theorem w_175 : (Jvm.Cond.constant "CardHouse" (177 : Nat) (45967 : Int32)) ∈ GW := gw_t1 189 rfl rfl
theorem w_176 : (Jvm.Cond.methodLink "CardHouse$Pile" (56 : Nat) ({ cls := "java/lang/Math", name := "max", desc := "(II)I" } : Jvm.MethodName)) ∈ GW := gw_t1 190 rfl rfl
theorem w_177 : (Jvm.Cond.methodLink "CardHouse$Text" (39 : Nat) ({ cls := "CardHouse$Text", name := "canBeTold", desc := "(LCardHouse$Pile;II)Z" } : Jvm.MethodName)) ∈ GW := gw_t1 191 rfl rfl
theorem w_178 : (Jvm.Cond.static ({ cls := "CardHouse$Text", name := "canBeTold", desc := "(LCardHouse$Pile;II)Z" } : Jvm.MethodName)) ∈ GW := gw_t1 192 rfl rfl
theorem w_179 : (Jvm.Cond.code ({ cls := "CardHouse$Text", name := "canBeTold", desc := "(LCardHouse$Pile;II)Z" } : Jvm.MethodName) prog_5_method_7_code (3 : Nat) (Option.some Jvm.ClassFile.FieldType.boolean)) ∈ GW := gw_t1 193 rfl rfl
theorem w_180 : (Jvm.Cond.methodLink "CardHouse$Text" (52 : Nat) ({ cls := "CardHouse$Pile", name := "hasRoomFor", desc := "(I)Z" } : Jvm.MethodName)) ∈ GW := gw_t1 194 rfl rfl
theorem w_181 : (Jvm.Cond.instanceMethod ({ cls := "CardHouse$Pile", name := "hasRoomFor", desc := "(I)Z" } : Jvm.MethodName)) ∈ GW := gw_t1 195 rfl rfl
theorem w_182 : (Jvm.Cond.selects "CardHouse$Pile" ({ cls := "CardHouse$Pile", name := "hasRoomFor", desc := "(I)Z" } : Jvm.MethodName) ({ cls := "CardHouse$Pile", name := "hasRoomFor", desc := "(I)Z" } : Jvm.MethodName)) ∈ GW := gw_t1 196 rfl rfl
theorem w_183 : (Jvm.Cond.code ({ cls := "CardHouse$Pile", name := "hasRoomFor", desc := "(I)Z" } : Jvm.MethodName) prog_3_method_11_code (2 : Nat) (Option.some Jvm.ClassFile.FieldType.boolean)) ∈ GW := gw_t1 197 rfl rfl
theorem w_184 : (Jvm.Cond.static ({ cls := "CardHouse", name := "isPiece", desc := "(I)Z" } : Jvm.MethodName)) ∈ GW := gw_t1 199 rfl rfl
theorem w_185 : (Jvm.Cond.code ({ cls := "CardHouse", name := "isPiece", desc := "(I)Z" } : Jvm.MethodName) prog_1_method_35_code (1 : Nat) (Option.some Jvm.ClassFile.FieldType.boolean)) ∈ GW := gw_t1 200 rfl rfl
theorem w_186 : (Jvm.Cond.methodLink "CardHouse$Text" (42 : Nat) ({ cls := "CardHouse$Text", name := "readKind", desc := "(LCardHouse$Pile;II)Z" } : Jvm.MethodName)) ∈ GW := gw_t1 204 rfl rfl
theorem w_187 : (Jvm.Cond.static ({ cls := "CardHouse$Text", name := "readKind", desc := "(LCardHouse$Pile;II)Z" } : Jvm.MethodName)) ∈ GW := gw_t1 205 rfl rfl
theorem w_188 : (Jvm.Cond.code ({ cls := "CardHouse$Text", name := "readKind", desc := "(LCardHouse$Pile;II)Z" } : Jvm.MethodName) prog_5_method_8_code (3 : Nat) (Option.some Jvm.ClassFile.FieldType.boolean)) ∈ GW := gw_t1 206 rfl rfl
theorem w_189 : (Jvm.Cond.methodLink "CardHouse$Text" (59 : Nat) ({ cls := "CardHouse$Pile", name := "canLay", desc := "(II)Z" } : Jvm.MethodName)) ∈ GW := gw_t1 207 rfl rfl
theorem w_190 : (Jvm.Cond.instanceMethod ({ cls := "CardHouse$Pile", name := "canLay", desc := "(II)Z" } : Jvm.MethodName)) ∈ GW := gw_t1 208 rfl rfl
theorem w_191 : (Jvm.Cond.selects "CardHouse$Pile" ({ cls := "CardHouse$Pile", name := "canLay", desc := "(II)Z" } : Jvm.MethodName) ({ cls := "CardHouse$Pile", name := "canLay", desc := "(II)Z" } : Jvm.MethodName)) ∈ GW := gw_t1 209 rfl rfl
theorem w_192 : (Jvm.Cond.code ({ cls := "CardHouse$Pile", name := "canLay", desc := "(II)Z" } : Jvm.MethodName) prog_3_method_12_code (3 : Nat) (Option.some Jvm.ClassFile.FieldType.boolean)) ∈ GW := gw_t1 210 rfl rfl
theorem w_193 : (Jvm.Cond.methodLink "CardHouse$Pile" (68 : Nat) ({ cls := "CardHouse$Pile", name := "hasRoomFor", desc := "(I)Z" } : Jvm.MethodName)) ∈ GW := gw_t1 211 rfl rfl
theorem w_194 : (Jvm.Cond.methodLink "CardHouse$Text" (63 : Nat) ({ cls := "CardHouse$Pile", name := "place", desc := "(II)V" } : Jvm.MethodName)) ∈ GW := gw_t1 212 rfl rfl
theorem w_195 : (Jvm.Cond.instanceMethod ({ cls := "CardHouse$Pile", name := "place", desc := "(II)V" } : Jvm.MethodName)) ∈ GW := gw_t1 213 rfl rfl
theorem w_196 : (Jvm.Cond.selects "CardHouse$Pile" ({ cls := "CardHouse$Pile", name := "place", desc := "(II)V" } : Jvm.MethodName) ({ cls := "CardHouse$Pile", name := "place", desc := "(II)V" } : Jvm.MethodName)) ∈ GW := gw_t1 214 rfl rfl
theorem w_197 : (Jvm.Cond.code ({ cls := "CardHouse$Pile", name := "place", desc := "(II)V" } : Jvm.MethodName) prog_3_method_13_code (3 : Nat) (Option.none : Option Jvm.ClassFile.FieldType)) ∈ GW := gw_t1 215 rfl rfl
theorem w_198 : (Jvm.Cond.methodLink "CardHouseLaw" (27 : Nat) ({ cls := "CardHouse", name := "house", desc := "()I" } : Jvm.MethodName)) ∈ GW := gw_t1 216 rfl rfl
theorem w_199 : (Jvm.Cond.instanceMethod ({ cls := "CardHouse", name := "house", desc := "()I" } : Jvm.MethodName)) ∈ GW := gw_t1 217 rfl rfl
theorem w_200 : (Jvm.Cond.selects "CardHouse" ({ cls := "CardHouse", name := "house", desc := "()I" } : Jvm.MethodName) ({ cls := "CardHouse", name := "house", desc := "()I" } : Jvm.MethodName)) ∈ GW := gw_t1 218 rfl rfl
theorem w_201 : (Jvm.Cond.code ({ cls := "CardHouse", name := "house", desc := "()I" } : Jvm.MethodName) prog_1_method_5_code (1 : Nat) (Option.some Jvm.ClassFile.FieldType.int)) ∈ GW := gw_t1 219 rfl rfl
theorem w_202 : (Jvm.Cond.methodLink "CardHouse" (62 : Nat) ({ cls := "CardHouse$Pile", name := "settle", desc := "()I" } : Jvm.MethodName)) ∈ GW := gw_t1 220 rfl rfl
theorem w_203 : (Jvm.Cond.instanceMethod ({ cls := "CardHouse$Pile", name := "settle", desc := "()I" } : Jvm.MethodName)) ∈ GW := gw_t1 221 rfl rfl
theorem w_204 : (Jvm.Cond.selects "CardHouse$Pile" ({ cls := "CardHouse$Pile", name := "settle", desc := "()I" } : Jvm.MethodName) ({ cls := "CardHouse$Pile", name := "settle", desc := "()I" } : Jvm.MethodName)) ∈ GW := gw_t1 222 rfl rfl
theorem w_205 : (Jvm.Cond.code ({ cls := "CardHouse$Pile", name := "settle", desc := "()I" } : Jvm.MethodName) prog_3_method_23_code (5 : Nat) (Option.some Jvm.ClassFile.FieldType.int)) ∈ GW := gw_t1 223 rfl rfl
theorem w_206 : (Jvm.Cond.methodLink "CardHouse$Pile" (93 : Nat) ({ cls := "CardHouse$Pile", name := "weigh", desc := "()V" } : Jvm.MethodName)) ∈ GW := gw_t1 224 rfl rfl
theorem w_207 : (Jvm.Cond.instanceMethod ({ cls := "CardHouse$Pile", name := "weigh", desc := "()V" } : Jvm.MethodName)) ∈ GW := gw_t1 226 rfl rfl
theorem w_208 : (Jvm.Cond.code ({ cls := "CardHouse$Pile", name := "weigh", desc := "()V" } : Jvm.MethodName) prog_3_method_29_code (6 : Nat) (Option.none : Option Jvm.ClassFile.FieldType)) ∈ GW := gw_t1 227 rfl rfl
theorem w_209 : (Jvm.Cond.methodLink "CardHouse$Pile" (126 : Nat) ({ cls := "CardHouse$Pile", name := "weightOf", desc := "(I)I" } : Jvm.MethodName)) ∈ GW := gw_t1 228 rfl rfl
theorem w_210 : (Jvm.Cond.instanceMethod ({ cls := "CardHouse$Pile", name := "weightOf", desc := "(I)I" } : Jvm.MethodName)) ∈ GW := gw_t1 229 rfl rfl
theorem w_211 : (Jvm.Cond.selects "CardHouse$Pile" ({ cls := "CardHouse$Pile", name := "weightOf", desc := "(I)I" } : Jvm.MethodName) ({ cls := "CardHouse$Pile", name := "weightOf", desc := "(I)I" } : Jvm.MethodName)) ∈ GW := gw_t1 230 rfl rfl
theorem w_212 : (Jvm.Cond.code ({ cls := "CardHouse$Pile", name := "weightOf", desc := "(I)I" } : Jvm.MethodName) prog_3_method_7_code (2 : Nat) (Option.some Jvm.ClassFile.FieldType.int)) ∈ GW := gw_t1 231 rfl rfl
theorem w_213 : (Jvm.Cond.static ({ cls := "CardHouse", name := "cardWeight", desc := "(I)I" } : Jvm.MethodName)) ∈ GW := gw_t1 233 rfl rfl
theorem w_214 : (Jvm.Cond.code ({ cls := "CardHouse", name := "cardWeight", desc := "(I)I" } : Jvm.MethodName) prog_1_method_41_code (1 : Nat) (Option.some Jvm.ClassFile.FieldType.int)) ∈ GW := gw_t1 234 rfl rfl
theorem w_215 : (Jvm.Cond.methodLink "CardHouse$Pile" (102 : Nat) ({ cls := "CardHouse$Pile", name := "drop", desc := "(I)I" } : Jvm.MethodName)) ∈ GW := gw_t2 1 rfl rfl
theorem w_216 : (Jvm.Cond.instanceMethod ({ cls := "CardHouse$Pile", name := "drop", desc := "(I)I" } : Jvm.MethodName)) ∈ GW := gw_t2 3 rfl rfl
theorem w_217 : (Jvm.Cond.code ({ cls := "CardHouse$Pile", name := "drop", desc := "(I)I" } : Jvm.MethodName) prog_3_method_24_code (4 : Nat) (Option.some Jvm.ClassFile.FieldType.int)) ∈ GW := gw_t2 4 rfl rfl
theorem w_218 : (Jvm.Cond.methodLink "CardHouse$Pile" (83 : Nat) ({ cls := "CardHouse$Pile", name := "goneWith", desc := "(I)I" } : Jvm.MethodName)) ∈ GW := gw_t2 5 rfl rfl
theorem w_219 : (Jvm.Cond.instanceMethod ({ cls := "CardHouse$Pile", name := "goneWith", desc := "(I)I" } : Jvm.MethodName)) ∈ GW := gw_t2 6 rfl rfl
theorem w_220 : (Jvm.Cond.selects "CardHouse$Pile" ({ cls := "CardHouse$Pile", name := "goneWith", desc := "(I)I" } : Jvm.MethodName) ({ cls := "CardHouse$Pile", name := "goneWith", desc := "(I)I" } : Jvm.MethodName)) ∈ GW := gw_t2 7 rfl rfl
theorem w_221 : (Jvm.Cond.code ({ cls := "CardHouse$Pile", name := "goneWith", desc := "(I)I" } : Jvm.MethodName) prog_3_method_25_code (4 : Nat) (Option.some Jvm.ClassFile.FieldType.int)) ∈ GW := gw_t2 8 rfl rfl
theorem w_222 : (Jvm.Cond.methodLink "CardHouse$Pile" (28 : Nat) ({ cls := "java/lang/Integer", name := "bitCount", desc := "(I)I" } : Jvm.MethodName)) ∈ GW := gw_t2 9 rfl rfl
theorem w_223 : (Jvm.Cond.static ({ cls := "java/lang/Integer", name := "bitCount", desc := "(I)I" } : Jvm.MethodName)) ∈ GW := gw_t2 10 rfl rfl
theorem w_224 : (Jvm.Cond.code ({ cls := "java/lang/Integer", name := "bitCount", desc := "(I)I" } : Jvm.MethodName) prog_8_method_49_code (1 : Nat) (Option.some Jvm.ClassFile.FieldType.int)) ∈ GW := gw_t2 11 rfl rfl
theorem w_225 : (Jvm.Cond.constant "java/lang/Integer" (265 : Nat) (1431655765 : Int32)) ∈ GW := gw_t2 12 rfl rfl
theorem w_226 : (Jvm.Cond.constant "java/lang/Integer" (266 : Nat) (858993459 : Int32)) ∈ GW := gw_t2 13 rfl rfl
theorem w_227 : (Jvm.Cond.constant "java/lang/Integer" (267 : Nat) (252645135 : Int32)) ∈ GW := gw_t2 14 rfl rfl
theorem w_228 : (Jvm.Cond.methodLink "CardHouse" (69 : Nat) ({ cls := "CardHouse$Pile", name := "copyFrom", desc := "(LCardHouse$Pile;)V" } : Jvm.MethodName)) ∈ GW := gw_t2 15 rfl rfl
theorem w_229 : (Jvm.Cond.instanceMethod ({ cls := "CardHouse$Pile", name := "copyFrom", desc := "(LCardHouse$Pile;)V" } : Jvm.MethodName)) ∈ GW := gw_t2 16 rfl rfl
theorem w_230 : (Jvm.Cond.selects "CardHouse$Pile" ({ cls := "CardHouse$Pile", name := "copyFrom", desc := "(LCardHouse$Pile;)V" } : Jvm.MethodName) ({ cls := "CardHouse$Pile", name := "copyFrom", desc := "(LCardHouse$Pile;)V" } : Jvm.MethodName)) ∈ GW := gw_t2 17 rfl rfl
theorem w_231 : (Jvm.Cond.code ({ cls := "CardHouse$Pile", name := "copyFrom", desc := "(LCardHouse$Pile;)V" } : Jvm.MethodName) prog_3_method_3_code (3 : Nat) (Option.none : Option Jvm.ClassFile.FieldType)) ∈ GW := gw_t2 18 rfl rfl
theorem w_232 : (Jvm.Cond.methodLink "CardHouse" (79 : Nat) ({ cls := "CardHouse$Pile", name := "size", desc := "()I" } : Jvm.MethodName)) ∈ GW := gw_t2 19 rfl rfl
theorem w_233 : (Jvm.Cond.instanceMethod ({ cls := "CardHouse$Pile", name := "size", desc := "()I" } : Jvm.MethodName)) ∈ GW := gw_t2 20 rfl rfl
theorem w_234 : (Jvm.Cond.selects "CardHouse$Pile" ({ cls := "CardHouse$Pile", name := "size", desc := "()I" } : Jvm.MethodName) ({ cls := "CardHouse$Pile", name := "size", desc := "()I" } : Jvm.MethodName)) ∈ GW := gw_t2 21 rfl rfl
theorem w_235 : (Jvm.Cond.code ({ cls := "CardHouse$Pile", name := "size", desc := "()I" } : Jvm.MethodName) prog_3_method_4_code (1 : Nat) (Option.some Jvm.ClassFile.FieldType.int)) ∈ GW := gw_t2 22 rfl rfl
theorem w_236 : (Jvm.Cond.methodLink "CardHouseLaw" (31 : Nat) ({ cls := "CardHouse", name := "about", desc := "(I)I" } : Jvm.MethodName)) ∈ GW := gw_t2 23 rfl rfl
theorem w_237 : (Jvm.Cond.instanceMethod ({ cls := "CardHouse", name := "about", desc := "(I)I" } : Jvm.MethodName)) ∈ GW := gw_t2 24 rfl rfl
theorem w_238 : (Jvm.Cond.selects "CardHouse" ({ cls := "CardHouse", name := "about", desc := "(I)I" } : Jvm.MethodName) ({ cls := "CardHouse", name := "about", desc := "(I)I" } : Jvm.MethodName)) ∈ GW := gw_t2 25 rfl rfl
theorem w_239 : (Jvm.Cond.code ({ cls := "CardHouse", name := "about", desc := "(I)I" } : Jvm.MethodName) prog_1_method_6_code (2 : Nat) (Option.some Jvm.ClassFile.FieldType.int)) ∈ GW := gw_t2 26 rfl rfl
theorem w_240 : (Jvm.Cond.methodLink "CardHouse" (85 : Nat) ({ cls := "CardHouse", name := "cardsInDeck", desc := "()I" } : Jvm.MethodName)) ∈ GW := gw_t2 27 rfl rfl
theorem w_241 : (Jvm.Cond.instanceMethod ({ cls := "CardHouse", name := "cardsInDeck", desc := "()I" } : Jvm.MethodName)) ∈ GW := gw_t2 29 rfl rfl
theorem w_242 : (Jvm.Cond.code ({ cls := "CardHouse", name := "cardsInDeck", desc := "()I" } : Jvm.MethodName) prog_1_method_7_code (3 : Nat) (Option.some Jvm.ClassFile.FieldType.int)) ∈ GW := gw_t2 30 rfl rfl
theorem w_243 : (Jvm.Cond.methodLink "CardHouse" (94 : Nat) ({ cls := "CardHouse$Pile", name := "cardsLeft", desc := "(I)I" } : Jvm.MethodName)) ∈ GW := gw_t2 31 rfl rfl
theorem w_244 : (Jvm.Cond.methodLink "CardHouse" (88 : Nat) ({ cls := "CardHouse$Pile", name := "highestLevel", desc := "()I" } : Jvm.MethodName)) ∈ GW := gw_t2 32 rfl rfl
theorem w_245 : (Jvm.Cond.instanceMethod ({ cls := "CardHouse$Pile", name := "highestLevel", desc := "()I" } : Jvm.MethodName)) ∈ GW := gw_t2 33 rfl rfl
theorem w_246 : (Jvm.Cond.selects "CardHouse$Pile" ({ cls := "CardHouse$Pile", name := "highestLevel", desc := "()I" } : Jvm.MethodName) ({ cls := "CardHouse$Pile", name := "highestLevel", desc := "()I" } : Jvm.MethodName)) ∈ GW := gw_t2 34 rfl rfl
theorem w_247 : (Jvm.Cond.code ({ cls := "CardHouse$Pile", name := "highestLevel", desc := "()I" } : Jvm.MethodName) prog_3_method_8_code (3 : Nat) (Option.some Jvm.ClassFile.FieldType.int)) ∈ GW := gw_t2 35 rfl rfl
theorem w_248 : (Jvm.Cond.methodLink "CardHouseLaw" (35 : Nat) ({ cls := "CardHouse", name := "deck", desc := "(I)I" } : Jvm.MethodName)) ∈ GW := gw_t2 38 rfl rfl
theorem w_249 : (Jvm.Cond.instanceMethod ({ cls := "CardHouse", name := "deck", desc := "(I)I" } : Jvm.MethodName)) ∈ GW := gw_t2 39 rfl rfl
theorem w_250 : (Jvm.Cond.selects "CardHouse" ({ cls := "CardHouse", name := "deck", desc := "(I)I" } : Jvm.MethodName) ({ cls := "CardHouse", name := "deck", desc := "(I)I" } : Jvm.MethodName)) ∈ GW := gw_t2 40 rfl rfl
theorem w_251 : (Jvm.Cond.code ({ cls := "CardHouse", name := "deck", desc := "(I)I" } : Jvm.MethodName) prog_1_method_8_code (2 : Nat) (Option.some Jvm.ClassFile.FieldType.int)) ∈ GW := gw_t2 41 rfl rfl
theorem w_252 : (Jvm.Cond.methodLink "CardHouse" (98 : Nat) ({ cls := "CardHouse", name := "isKind", desc := "(I)Z" } : Jvm.MethodName)) ∈ GW := gw_t2 42 rfl rfl
theorem w_253 : (Jvm.Cond.methodLink "CardHouseLaw" (39 : Nat) ({ cls := "CardHouse", name := "piece", desc := "(II)I" } : Jvm.MethodName)) ∈ GW := gw_t2 43 rfl rfl
theorem w_254 : (Jvm.Cond.instanceMethod ({ cls := "CardHouse", name := "piece", desc := "(II)I" } : Jvm.MethodName)) ∈ GW := gw_t2 44 rfl rfl
theorem w_255 : (Jvm.Cond.selects "CardHouse" ({ cls := "CardHouse", name := "piece", desc := "(II)I" } : Jvm.MethodName) ({ cls := "CardHouse", name := "piece", desc := "(II)I" } : Jvm.MethodName)) ∈ GW := gw_t2 45 rfl rfl
theorem w_256 : (Jvm.Cond.code ({ cls := "CardHouse", name := "piece", desc := "(II)I" } : Jvm.MethodName) prog_1_method_9_code (3 : Nat) (Option.some Jvm.ClassFile.FieldType.int)) ∈ GW := gw_t2 46 rfl rfl
theorem w_257 : (Jvm.Cond.methodLink "CardHouse" (102 : Nat) ({ cls := "CardHouse", name := "isPiece", desc := "(I)Z" } : Jvm.MethodName)) ∈ GW := gw_t2 47 rfl rfl
theorem w_258 : (Jvm.Cond.methodLink "CardHouse" (105 : Nat) ({ cls := "CardHouse$Pile", name := "has", desc := "(I)Z" } : Jvm.MethodName)) ∈ GW := gw_t2 48 rfl rfl
theorem w_259 : (Jvm.Cond.methodLink "CardHouse" (108 : Nat) ({ cls := "CardHouse$Pile", name := "kindOf", desc := "(I)I" } : Jvm.MethodName)) ∈ GW := gw_t2 49 rfl rfl
theorem w_260 : (Jvm.Cond.methodLink "CardHouse" (111 : Nat) ({ cls := "CardHouse$Pile", name := "weightOf", desc := "(I)I" } : Jvm.MethodName)) ∈ GW := gw_t2 50 rfl rfl
theorem w_261 : (Jvm.Cond.methodLink "CardHouse" (114 : Nat) ({ cls := "CardHouse$Pile", name := "loadOf", desc := "(I)I" } : Jvm.MethodName)) ∈ GW := gw_t2 51 rfl rfl
theorem w_262 : (Jvm.Cond.instanceMethod ({ cls := "CardHouse$Pile", name := "loadOf", desc := "(I)I" } : Jvm.MethodName)) ∈ GW := gw_t2 52 rfl rfl
theorem w_263 : (Jvm.Cond.selects "CardHouse$Pile" ({ cls := "CardHouse$Pile", name := "loadOf", desc := "(I)I" } : Jvm.MethodName) ({ cls := "CardHouse$Pile", name := "loadOf", desc := "(I)I" } : Jvm.MethodName)) ∈ GW := gw_t2 53 rfl rfl
theorem w_264 : (Jvm.Cond.code ({ cls := "CardHouse$Pile", name := "loadOf", desc := "(I)I" } : Jvm.MethodName) prog_3_method_28_code (2 : Nat) (Option.some Jvm.ClassFile.FieldType.int)) ∈ GW := gw_t2 54 rfl rfl
theorem w_265 : (Jvm.Cond.fieldLink "CardHouse" (117 : Nat) "CardHouse" "BEARS" "[I") ∈ GW := gw_t2 55 rfl rfl
theorem w_266 : (Jvm.Cond.methodLink "CardHouse" (121 : Nat) ({ cls := "CardHouse$Pile", name := "canLift", desc := "(I)Z" } : Jvm.MethodName)) ∈ GW := gw_t2 56 rfl rfl
theorem w_267 : (Jvm.Cond.instanceMethod ({ cls := "CardHouse$Pile", name := "canLift", desc := "(I)Z" } : Jvm.MethodName)) ∈ GW := gw_t2 57 rfl rfl
theorem w_268 : (Jvm.Cond.selects "CardHouse$Pile" ({ cls := "CardHouse$Pile", name := "canLift", desc := "(I)Z" } : Jvm.MethodName) ({ cls := "CardHouse$Pile", name := "canLift", desc := "(I)Z" } : Jvm.MethodName)) ∈ GW := gw_t2 58 rfl rfl
theorem w_269 : (Jvm.Cond.code ({ cls := "CardHouse$Pile", name := "canLift", desc := "(I)Z" } : Jvm.MethodName) prog_3_method_16_code (2 : Nat) (Option.some Jvm.ClassFile.FieldType.boolean)) ∈ GW := gw_t2 59 rfl rfl
theorem w_270 : (Jvm.Cond.methodLink "CardHouseLaw" (44 : Nat) ({ cls := "CardHouse", name := "put", desc := "(II)I" } : Jvm.MethodName)) ∈ GW := gw_t2 60 rfl rfl
theorem w_271 : (Jvm.Cond.instanceMethod ({ cls := "CardHouse", name := "put", desc := "(II)I" } : Jvm.MethodName)) ∈ GW := gw_t2 61 rfl rfl
theorem w_272 : (Jvm.Cond.selects "CardHouse" ({ cls := "CardHouse", name := "put", desc := "(II)I" } : Jvm.MethodName) ({ cls := "CardHouse", name := "put", desc := "(II)I" } : Jvm.MethodName)) ∈ GW := gw_t2 62 rfl rfl
theorem w_273 : (Jvm.Cond.code ({ cls := "CardHouse", name := "put", desc := "(II)I" } : Jvm.MethodName) prog_1_method_10_code (3 : Nat) (Option.some Jvm.ClassFile.FieldType.int)) ∈ GW := gw_t2 63 rfl rfl
theorem w_274 : (Jvm.Cond.methodLink "CardHouse" (124 : Nat) ({ cls := "CardHouse$Pile", name := "canLay", desc := "(II)Z" } : Jvm.MethodName)) ∈ GW := gw_t2 64 rfl rfl
theorem w_275 : (Jvm.Cond.methodLink "CardHouse" (128 : Nat) ({ cls := "CardHouse", name := "recordAct", desc := "()V" } : Jvm.MethodName)) ∈ GW := gw_t2 65 rfl rfl
theorem w_276 : (Jvm.Cond.instanceMethod ({ cls := "CardHouse", name := "recordAct", desc := "()V" } : Jvm.MethodName)) ∈ GW := gw_t2 67 rfl rfl
theorem w_277 : (Jvm.Cond.code ({ cls := "CardHouse", name := "recordAct", desc := "()V" } : Jvm.MethodName) prog_1_method_14_code (1 : Nat) (Option.none : Option Jvm.ClassFile.FieldType)) ∈ GW := gw_t2 68 rfl rfl
theorem w_278 : (Jvm.Cond.methodLink "CardHouse" (154 : Nat) ({ cls := "CardHouse$Shelf", name := "forgetFirst", desc := "()V" } : Jvm.MethodName)) ∈ GW := gw_t2 69 rfl rfl
theorem w_279 : (Jvm.Cond.instanceMethod ({ cls := "CardHouse$Shelf", name := "forgetFirst", desc := "()V" } : Jvm.MethodName)) ∈ GW := gw_t2 70 rfl rfl
theorem w_280 : (Jvm.Cond.selects "CardHouse$Shelf" ({ cls := "CardHouse$Shelf", name := "forgetFirst", desc := "()V" } : Jvm.MethodName) ({ cls := "CardHouse$Shelf", name := "forgetFirst", desc := "()V" } : Jvm.MethodName)) ∈ GW := gw_t2 71 rfl rfl
theorem w_281 : (Jvm.Cond.code ({ cls := "CardHouse$Shelf", name := "forgetFirst", desc := "()V" } : Jvm.MethodName) prog_4_method_4_code (2 : Nat) (Option.none : Option Jvm.ClassFile.FieldType)) ∈ GW := gw_t2 72 rfl rfl
theorem w_282 : (Jvm.Cond.methodLink "CardHouse" (157 : Nat) ({ cls := "CardHouse$Shelf", name := "store", desc := "(ILCardHouse$Pile;)V" } : Jvm.MethodName)) ∈ GW := gw_t2 73 rfl rfl
theorem w_283 : (Jvm.Cond.instanceMethod ({ cls := "CardHouse$Shelf", name := "store", desc := "(ILCardHouse$Pile;)V" } : Jvm.MethodName)) ∈ GW := gw_t2 74 rfl rfl
theorem w_284 : (Jvm.Cond.selects "CardHouse$Shelf" ({ cls := "CardHouse$Shelf", name := "store", desc := "(ILCardHouse$Pile;)V" } : Jvm.MethodName) ({ cls := "CardHouse$Shelf", name := "store", desc := "(ILCardHouse$Pile;)V" } : Jvm.MethodName)) ∈ GW := gw_t2 75 rfl rfl
theorem w_285 : (Jvm.Cond.code ({ cls := "CardHouse$Shelf", name := "store", desc := "(ILCardHouse$Pile;)V" } : Jvm.MethodName) prog_4_method_2_code (3 : Nat) (Option.none : Option Jvm.ClassFile.FieldType)) ∈ GW := gw_t2 76 rfl rfl
theorem w_286 : (Jvm.Cond.methodLink "CardHouse" (131 : Nat) ({ cls := "CardHouse$Pile", name := "lay", desc := "(II)I" } : Jvm.MethodName)) ∈ GW := gw_t2 77 rfl rfl
theorem w_287 : (Jvm.Cond.instanceMethod ({ cls := "CardHouse$Pile", name := "lay", desc := "(II)I" } : Jvm.MethodName)) ∈ GW := gw_t2 78 rfl rfl
theorem w_288 : (Jvm.Cond.selects "CardHouse$Pile" ({ cls := "CardHouse$Pile", name := "lay", desc := "(II)I" } : Jvm.MethodName) ({ cls := "CardHouse$Pile", name := "lay", desc := "(II)I" } : Jvm.MethodName)) ∈ GW := gw_t2 79 rfl rfl
theorem w_289 : (Jvm.Cond.code ({ cls := "CardHouse$Pile", name := "lay", desc := "(II)I" } : Jvm.MethodName) prog_3_method_14_code (3 : Nat) (Option.some Jvm.ClassFile.FieldType.int)) ∈ GW := gw_t2 80 rfl rfl
theorem w_290 : (Jvm.Cond.methodLink "CardHouse$Pile" (71 : Nat) ({ cls := "CardHouse$Pile", name := "place", desc := "(II)V" } : Jvm.MethodName)) ∈ GW := gw_t2 81 rfl rfl
theorem w_291 : (Jvm.Cond.methodLink "CardHouse$Pile" (75 : Nat) ({ cls := "CardHouse$Pile", name := "settle", desc := "()I" } : Jvm.MethodName)) ∈ GW := gw_t2 82 rfl rfl
theorem w_292 : (Jvm.Cond.methodLink "CardHouseLaw" (48 : Nat) ({ cls := "CardHouse", name := "take", desc := "(I)I" } : Jvm.MethodName)) ∈ GW := gw_t2 83 rfl rfl
theorem w_293 : (Jvm.Cond.instanceMethod ({ cls := "CardHouse", name := "take", desc := "(I)I" } : Jvm.MethodName)) ∈ GW := gw_t2 84 rfl rfl
theorem w_294 : (Jvm.Cond.selects "CardHouse" ({ cls := "CardHouse", name := "take", desc := "(I)I" } : Jvm.MethodName) ({ cls := "CardHouse", name := "take", desc := "(I)I" } : Jvm.MethodName)) ∈ GW := gw_t2 85 rfl rfl
theorem w_295 : (Jvm.Cond.code ({ cls := "CardHouse", name := "take", desc := "(I)I" } : Jvm.MethodName) prog_1_method_11_code (2 : Nat) (Option.some Jvm.ClassFile.FieldType.int)) ∈ GW := gw_t2 86 rfl rfl
theorem w_296 : (Jvm.Cond.methodLink "CardHouse" (135 : Nat) ({ cls := "CardHouse$Pile", name := "lift", desc := "(I)V" } : Jvm.MethodName)) ∈ GW := gw_t2 87 rfl rfl
theorem w_297 : (Jvm.Cond.instanceMethod ({ cls := "CardHouse$Pile", name := "lift", desc := "(I)V" } : Jvm.MethodName)) ∈ GW := gw_t2 88 rfl rfl
theorem w_298 : (Jvm.Cond.selects "CardHouse$Pile" ({ cls := "CardHouse$Pile", name := "lift", desc := "(I)V" } : Jvm.MethodName) ({ cls := "CardHouse$Pile", name := "lift", desc := "(I)V" } : Jvm.MethodName)) ∈ GW := gw_t2 89 rfl rfl
theorem w_299 : (Jvm.Cond.code ({ cls := "CardHouse$Pile", name := "lift", desc := "(I)V" } : Jvm.MethodName) prog_3_method_17_code (2 : Nat) (Option.none : Option Jvm.ClassFile.FieldType)) ∈ GW := gw_t2 90 rfl rfl
theorem w_300 : (Jvm.Cond.methodLink "CardHouse" (138 : Nat) ({ cls := "CardHouse", name := "cardsOf", desc := "(I)I" } : Jvm.MethodName)) ∈ GW := gw_t2 91 rfl rfl
theorem w_301 : (Jvm.Cond.methodLink "CardHouseLaw" (52 : Nat) ({ cls := "CardHouse", name := "draught", desc := "(II)I" } : Jvm.MethodName)) ∈ GW := gw_t2 92 rfl rfl
theorem w_302 : (Jvm.Cond.instanceMethod ({ cls := "CardHouse", name := "draught", desc := "(II)I" } : Jvm.MethodName)) ∈ GW := gw_t2 93 rfl rfl
theorem w_303 : (Jvm.Cond.selects "CardHouse" ({ cls := "CardHouse", name := "draught", desc := "(II)I" } : Jvm.MethodName) ({ cls := "CardHouse", name := "draught", desc := "(II)I" } : Jvm.MethodName)) ∈ GW := gw_t2 94 rfl rfl
theorem w_304 : (Jvm.Cond.code ({ cls := "CardHouse", name := "draught", desc := "(II)I" } : Jvm.MethodName) prog_1_method_12_code (3 : Nat) (Option.some Jvm.ClassFile.FieldType.int)) ∈ GW := gw_t2 95 rfl rfl
theorem w_305 : (Jvm.Cond.methodLink "CardHouse" (141 : Nat) ({ cls := "CardHouse", name := "isLevel", desc := "(I)Z" } : Jvm.MethodName)) ∈ GW := gw_t2 96 rfl rfl
theorem w_306 : (Jvm.Cond.static ({ cls := "CardHouse", name := "isLevel", desc := "(I)Z" } : Jvm.MethodName)) ∈ GW := gw_t2 97 rfl rfl
theorem w_307 : (Jvm.Cond.code ({ cls := "CardHouse", name := "isLevel", desc := "(I)Z" } : Jvm.MethodName) prog_1_method_37_code (1 : Nat) (Option.some Jvm.ClassFile.FieldType.boolean)) ∈ GW := gw_t2 98 rfl rfl
theorem w_308 : (Jvm.Cond.methodLink "CardHouse" (144 : Nat) ({ cls := "CardHouse", name := "isForce", desc := "(I)Z" } : Jvm.MethodName)) ∈ GW := gw_t2 99 rfl rfl
theorem w_309 : (Jvm.Cond.static ({ cls := "CardHouse", name := "isForce", desc := "(I)Z" } : Jvm.MethodName)) ∈ GW := gw_t2 100 rfl rfl
theorem w_310 : (Jvm.Cond.code ({ cls := "CardHouse", name := "isForce", desc := "(I)Z" } : Jvm.MethodName) prog_1_method_38_code (1 : Nat) (Option.some Jvm.ClassFile.FieldType.boolean)) ∈ GW := gw_t2 101 rfl rfl
theorem w_311 : (Jvm.Cond.methodLink "CardHouse" (147 : Nat) ({ cls := "CardHouse$Pile", name := "blow", desc := "(II)I" } : Jvm.MethodName)) ∈ GW := gw_t2 102 rfl rfl
theorem w_312 : (Jvm.Cond.instanceMethod ({ cls := "CardHouse$Pile", name := "blow", desc := "(II)I" } : Jvm.MethodName)) ∈ GW := gw_t2 103 rfl rfl
theorem w_313 : (Jvm.Cond.selects "CardHouse$Pile" ({ cls := "CardHouse$Pile", name := "blow", desc := "(II)I" } : Jvm.MethodName) ({ cls := "CardHouse$Pile", name := "blow", desc := "(II)I" } : Jvm.MethodName)) ∈ GW := gw_t2 104 rfl rfl
theorem w_314 : (Jvm.Cond.code ({ cls := "CardHouse$Pile", name := "blow", desc := "(II)I" } : Jvm.MethodName) prog_3_method_19_code (5 : Nat) (Option.some Jvm.ClassFile.FieldType.int)) ∈ GW := gw_t2 105 rfl rfl
theorem w_315 : (Jvm.Cond.methodLink "CardHouse$Pile" (96 : Nat) ({ cls := "CardHouse$Pile", name := "isTentOfLevel", desc := "(II)Z" } : Jvm.MethodName)) ∈ GW := gw_t2 106 rfl rfl
theorem w_316 : (Jvm.Cond.instanceMethod ({ cls := "CardHouse$Pile", name := "isTentOfLevel", desc := "(II)Z" } : Jvm.MethodName)) ∈ GW := gw_t2 108 rfl rfl
theorem w_317 : (Jvm.Cond.code ({ cls := "CardHouse$Pile", name := "isTentOfLevel", desc := "(II)Z" } : Jvm.MethodName) prog_3_method_22_code (3 : Nat) (Option.some Jvm.ClassFile.FieldType.boolean)) ∈ GW := gw_t2 109 rfl rfl
theorem w_318 : (Jvm.Cond.static ({ cls := "CardHouse", name := "steadiness", desc := "(II)I" } : Jvm.MethodName)) ∈ GW := gw_t2 114 rfl rfl
theorem w_319 : (Jvm.Cond.code ({ cls := "CardHouse", name := "steadiness", desc := "(II)I" } : Jvm.MethodName) prog_1_method_42_code (2 : Nat) (Option.some Jvm.ClassFile.FieldType.int)) ∈ GW := gw_t2 115 rfl rfl
theorem w_320 : (Jvm.Cond.methodLink "CardHouse" (247 : Nat) ({ cls := "CardHouse", name := "cardWeight", desc := "(I)I" } : Jvm.MethodName)) ∈ GW := gw_t2 116 rfl rfl
theorem w_321 : (Jvm.Cond.fieldLink "CardHouse" (250 : Nat) "CardHouse" "GRIP" "[I") ∈ GW := gw_t2 117 rfl rfl
theorem w_322 : (Jvm.Cond.methodLink "CardHouseLaw" (56 : Nat) ({ cls := "CardHouse", name := "undo", desc := "()I" } : Jvm.MethodName)) ∈ GW := gw_t2 119 rfl rfl
theorem w_323 : (Jvm.Cond.instanceMethod ({ cls := "CardHouse", name := "undo", desc := "()I" } : Jvm.MethodName)) ∈ GW := gw_t2 120 rfl rfl
theorem w_324 : (Jvm.Cond.selects "CardHouse" ({ cls := "CardHouse", name := "undo", desc := "()I" } : Jvm.MethodName) ({ cls := "CardHouse", name := "undo", desc := "()I" } : Jvm.MethodName)) ∈ GW := gw_t2 121 rfl rfl
theorem w_325 : (Jvm.Cond.code ({ cls := "CardHouse", name := "undo", desc := "()I" } : Jvm.MethodName) prog_1_method_13_code (1 : Nat) (Option.some Jvm.ClassFile.FieldType.int)) ∈ GW := gw_t2 122 rfl rfl
theorem w_326 : (Jvm.Cond.methodLink "CardHouse" (150 : Nat) ({ cls := "CardHouse$Shelf", name := "restore", desc := "(ILCardHouse$Pile;)V" } : Jvm.MethodName)) ∈ GW := gw_t2 123 rfl rfl
theorem w_327 : (Jvm.Cond.instanceMethod ({ cls := "CardHouse$Shelf", name := "restore", desc := "(ILCardHouse$Pile;)V" } : Jvm.MethodName)) ∈ GW := gw_t2 124 rfl rfl
theorem w_328 : (Jvm.Cond.selects "CardHouse$Shelf" ({ cls := "CardHouse$Shelf", name := "restore", desc := "(ILCardHouse$Pile;)V" } : Jvm.MethodName) ({ cls := "CardHouse$Shelf", name := "restore", desc := "(ILCardHouse$Pile;)V" } : Jvm.MethodName)) ∈ GW := gw_t2 125 rfl rfl
theorem w_329 : (Jvm.Cond.code ({ cls := "CardHouse$Shelf", name := "restore", desc := "(ILCardHouse$Pile;)V" } : Jvm.MethodName) prog_4_method_3_code (3 : Nat) (Option.none : Option Jvm.ClassFile.FieldType)) ∈ GW := gw_t2 126 rfl rfl
theorem w_330 : (Jvm.Cond.methodLink "CardHouseLaw" (60 : Nat) ({ cls := "CardHouse", name := "open", desc := "(I)I" } : Jvm.MethodName)) ∈ GW := gw_t2 127 rfl rfl
theorem w_331 : (Jvm.Cond.instanceMethod ({ cls := "CardHouse", name := "open", desc := "(I)I" } : Jvm.MethodName)) ∈ GW := gw_t2 128 rfl rfl
theorem w_332 : (Jvm.Cond.selects "CardHouse" ({ cls := "CardHouse", name := "open", desc := "(I)I" } : Jvm.MethodName) ({ cls := "CardHouse", name := "open", desc := "(I)I" } : Jvm.MethodName)) ∈ GW := gw_t2 129 rfl rfl
theorem w_333 : (Jvm.Cond.code ({ cls := "CardHouse", name := "open", desc := "(I)I" } : Jvm.MethodName) prog_1_method_15_code (5 : Nat) (Option.some Jvm.ClassFile.FieldType.int)) ∈ GW := gw_t2 130 rfl rfl
theorem w_334 : (Jvm.Cond.methodLink "CardHouse" (160 : Nat) ({ cls := "CardHouse$Pile", name := "hasRoomFor", desc := "(I)Z" } : Jvm.MethodName)) ∈ GW := gw_t2 131 rfl rfl
theorem w_335 : (Jvm.Cond.methodLink "CardHouseLaw" (64 : Nat) ({ cls := "CardHouse", name := "spread", desc := "(I)I" } : Jvm.MethodName)) ∈ GW := gw_t2 132 rfl rfl
theorem w_336 : (Jvm.Cond.instanceMethod ({ cls := "CardHouse", name := "spread", desc := "(I)I" } : Jvm.MethodName)) ∈ GW := gw_t2 133 rfl rfl
theorem w_337 : (Jvm.Cond.selects "CardHouse" ({ cls := "CardHouse", name := "spread", desc := "(I)I" } : Jvm.MethodName) ({ cls := "CardHouse", name := "spread", desc := "(I)I" } : Jvm.MethodName)) ∈ GW := gw_t2 134 rfl rfl
theorem w_338 : (Jvm.Cond.code ({ cls := "CardHouse", name := "spread", desc := "(I)I" } : Jvm.MethodName) prog_1_method_16_code (2 : Nat) (Option.some Jvm.ClassFile.FieldType.int)) ∈ GW := gw_t2 135 rfl rfl
theorem w_339 : (Jvm.Cond.methodLink "CardHouse" (163 : Nat) ({ cls := "CardHouse$Pile", name := "goneWith", desc := "(I)I" } : Jvm.MethodName)) ∈ GW := gw_t2 136 rfl rfl
theorem w_340 : (Jvm.Cond.methodLink "CardHouseLaw" (68 : Nat) ({ cls := "CardHouse", name := "stands", desc := "(I)I" } : Jvm.MethodName)) ∈ GW := gw_t2 137 rfl rfl
theorem w_341 : (Jvm.Cond.instanceMethod ({ cls := "CardHouse", name := "stands", desc := "(I)I" } : Jvm.MethodName)) ∈ GW := gw_t2 138 rfl rfl
theorem w_342 : (Jvm.Cond.selects "CardHouse" ({ cls := "CardHouse", name := "stands", desc := "(I)I" } : Jvm.MethodName) ({ cls := "CardHouse", name := "stands", desc := "(I)I" } : Jvm.MethodName)) ∈ GW := gw_t2 139 rfl rfl
theorem w_343 : (Jvm.Cond.code ({ cls := "CardHouse", name := "stands", desc := "(I)I" } : Jvm.MethodName) prog_1_method_17_code (2 : Nat) (Option.some Jvm.ClassFile.FieldType.int)) ∈ GW := gw_t2 140 rfl rfl
theorem w_344 : (Jvm.Cond.methodLink "CardHouse" (166 : Nat) ({ cls := "CardHouse$Pile", name := "forceStood", desc := "(I)I" } : Jvm.MethodName)) ∈ GW := gw_t2 141 rfl rfl
theorem w_345 : (Jvm.Cond.instanceMethod ({ cls := "CardHouse$Pile", name := "forceStood", desc := "(I)I" } : Jvm.MethodName)) ∈ GW := gw_t2 142 rfl rfl
theorem w_346 : (Jvm.Cond.selects "CardHouse$Pile" ({ cls := "CardHouse$Pile", name := "forceStood", desc := "(I)I" } : Jvm.MethodName) ({ cls := "CardHouse$Pile", name := "forceStood", desc := "(I)I" } : Jvm.MethodName)) ∈ GW := gw_t2 143 rfl rfl
theorem w_347 : (Jvm.Cond.code ({ cls := "CardHouse$Pile", name := "forceStood", desc := "(I)I" } : Jvm.MethodName) prog_3_method_21_code (4 : Nat) (Option.some Jvm.ClassFile.FieldType.int)) ∈ GW := gw_t2 144 rfl rfl
theorem w_348 : (Jvm.Cond.methodLink "CardHouse$Pile" (114 : Nat) ({ cls := "java/lang/Math", name := "min", desc := "(II)I" } : Jvm.MethodName)) ∈ GW := gw_t2 145 rfl rfl
theorem w_349 : (Jvm.Cond.static ({ cls := "java/lang/Math", name := "min", desc := "(II)I" } : Jvm.MethodName)) ∈ GW := gw_t2 146 rfl rfl
theorem w_350 : (Jvm.Cond.code ({ cls := "java/lang/Math", name := "min", desc := "(II)I" } : Jvm.MethodName) prog_9_method_69_code (2 : Nat) (Option.some Jvm.ClassFile.FieldType.int)) ∈ GW := gw_t2 147 rfl rfl
theorem w_351 : (Jvm.Cond.methodLink "CardHouseLaw" (72 : Nat) ({ cls := "CardHouse", name := "wants", desc := "(II)I" } : Jvm.MethodName)) ∈ GW := gw_t2 148 rfl rfl
theorem w_352 : (Jvm.Cond.instanceMethod ({ cls := "CardHouse", name := "wants", desc := "(II)I" } : Jvm.MethodName)) ∈ GW := gw_t2 149 rfl rfl
theorem w_353 : (Jvm.Cond.selects "CardHouse" ({ cls := "CardHouse", name := "wants", desc := "(II)I" } : Jvm.MethodName) ({ cls := "CardHouse", name := "wants", desc := "(II)I" } : Jvm.MethodName)) ∈ GW := gw_t2 150 rfl rfl
theorem w_354 : (Jvm.Cond.code ({ cls := "CardHouse", name := "wants", desc := "(II)I" } : Jvm.MethodName) prog_1_method_18_code (5 : Nat) (Option.some Jvm.ClassFile.FieldType.int)) ∈ GW := gw_t2 151 rfl rfl
theorem w_355 : (Jvm.Cond.methodLink "CardHouse" (169 : Nat) ({ cls := "CardHouse$Pile", name := "missingFor", desc := "(I)I" } : Jvm.MethodName)) ∈ GW := gw_t2 152 rfl rfl
theorem w_356 : (Jvm.Cond.instanceMethod ({ cls := "CardHouse$Pile", name := "missingFor", desc := "(I)I" } : Jvm.MethodName)) ∈ GW := gw_t2 153 rfl rfl
theorem w_357 : (Jvm.Cond.selects "CardHouse$Pile" ({ cls := "CardHouse$Pile", name := "missingFor", desc := "(I)I" } : Jvm.MethodName) ({ cls := "CardHouse$Pile", name := "missingFor", desc := "(I)I" } : Jvm.MethodName)) ∈ GW := gw_t2 154 rfl rfl
theorem w_358 : (Jvm.Cond.code ({ cls := "CardHouse$Pile", name := "missingFor", desc := "(I)I" } : Jvm.MethodName) prog_3_method_27_code (4 : Nat) (Option.some Jvm.ClassFile.FieldType.int)) ∈ GW := gw_t2 155 rfl rfl
theorem w_359 : (Jvm.Cond.methodLink "CardHouse" (172 : Nat) ({ cls := "java/lang/Integer", name := "bitCount", desc := "(I)I" } : Jvm.MethodName)) ∈ GW := gw_t2 156 rfl rfl
theorem w_360 : (Jvm.Cond.methodLink "CardHouseLaw" (76 : Nat) ({ cls := "CardHouse", name := "fit", desc := "(I)I" } : Jvm.MethodName)) ∈ GW := gw_t2 157 rfl rfl
theorem w_361 : (Jvm.Cond.instanceMethod ({ cls := "CardHouse", name := "fit", desc := "(I)I" } : Jvm.MethodName)) ∈ GW := gw_t2 158 rfl rfl
theorem w_362 : (Jvm.Cond.selects "CardHouse" ({ cls := "CardHouse", name := "fit", desc := "(I)I" } : Jvm.MethodName) ({ cls := "CardHouse", name := "fit", desc := "(I)I" } : Jvm.MethodName)) ∈ GW := gw_t2 159 rfl rfl
theorem w_363 : (Jvm.Cond.code ({ cls := "CardHouse", name := "fit", desc := "(I)I" } : Jvm.MethodName) prog_1_method_19_code (3 : Nat) (Option.some Jvm.ClassFile.FieldType.int)) ∈ GW := gw_t2 160 rfl rfl
theorem w_364 : (Jvm.Cond.methodLink "CardHouseLaw" (82 : Nat) ({ cls := "CardHouse", name := "judge", desc := "(IJ)I" } : Jvm.MethodName)) ∈ GW := gw_t2 161 rfl rfl
theorem w_365 : (Jvm.Cond.instanceMethod ({ cls := "CardHouse", name := "judge", desc := "(IJ)I" } : Jvm.MethodName)) ∈ GW := gw_t2 162 rfl rfl
theorem w_366 : (Jvm.Cond.selects "CardHouse" ({ cls := "CardHouse", name := "judge", desc := "(IJ)I" } : Jvm.MethodName) ({ cls := "CardHouse", name := "judge", desc := "(IJ)I" } : Jvm.MethodName)) ∈ GW := gw_t2 163 rfl rfl
theorem w_367 : (Jvm.Cond.code ({ cls := "CardHouse", name := "judge", desc := "(IJ)I" } : Jvm.MethodName) prog_1_method_20_code (8 : Nat) (Option.some Jvm.ClassFile.FieldType.int)) ∈ GW := gw_t2 164 rfl rfl
theorem w_368 : (Jvm.Cond.fieldLink "CardHouse" (178 : Nat) "CardHouse" "DOINGS_LIMIT" "[J") ∈ GW := gw_t2 165 rfl rfl
theorem w_369 : (Jvm.Cond.constantLong "CardHouse" (182 : Nat) (10000 : Int64)) ∈ GW := gw_t2 167 rfl rfl
theorem w_370 : (Jvm.Cond.methodLink "CardHouse" (184 : Nat) ({ cls := "CardHouse", name := "canBeDone", desc := "(I)Z" } : Jvm.MethodName)) ∈ GW := gw_t2 168 rfl rfl
theorem w_371 : (Jvm.Cond.instanceMethod ({ cls := "CardHouse", name := "canBeDone", desc := "(I)Z" } : Jvm.MethodName)) ∈ GW := gw_t2 170 rfl rfl
theorem w_372 : (Jvm.Cond.code ({ cls := "CardHouse", name := "canBeDone", desc := "(I)Z" } : Jvm.MethodName) prog_1_method_21_code (4 : Nat) (Option.some Jvm.ClassFile.FieldType.boolean)) ∈ GW := gw_t2 171 rfl rfl
theorem w_373 : (Jvm.Cond.methodLink "CardHouse" (187 : Nat) ({ cls := "CardHouse$Pile", name := "layIfCan", desc := "(II)Z" } : Jvm.MethodName)) ∈ GW := gw_t2 172 rfl rfl
theorem w_374 : (Jvm.Cond.instanceMethod ({ cls := "CardHouse$Pile", name := "layIfCan", desc := "(II)Z" } : Jvm.MethodName)) ∈ GW := gw_t2 173 rfl rfl
theorem w_375 : (Jvm.Cond.selects "CardHouse$Pile" ({ cls := "CardHouse$Pile", name := "layIfCan", desc := "(II)Z" } : Jvm.MethodName) ({ cls := "CardHouse$Pile", name := "layIfCan", desc := "(II)Z" } : Jvm.MethodName)) ∈ GW := gw_t2 174 rfl rfl
theorem w_376 : (Jvm.Cond.code ({ cls := "CardHouse$Pile", name := "layIfCan", desc := "(II)Z" } : Jvm.MethodName) prog_3_method_15_code (3 : Nat) (Option.some Jvm.ClassFile.FieldType.boolean)) ∈ GW := gw_t2 175 rfl rfl
theorem w_377 : (Jvm.Cond.methodLink "CardHouse$Pile" (79 : Nat) ({ cls := "CardHouse$Pile", name := "canLay", desc := "(II)Z" } : Jvm.MethodName)) ∈ GW := gw_t2 176 rfl rfl
theorem w_378 : (Jvm.Cond.methodLink "CardHouse" (190 : Nat) ({ cls := "CardHouse$Pile", name := "liftIfCan", desc := "(I)Z" } : Jvm.MethodName)) ∈ GW := gw_t2 177 rfl rfl
theorem w_379 : (Jvm.Cond.instanceMethod ({ cls := "CardHouse$Pile", name := "liftIfCan", desc := "(I)Z" } : Jvm.MethodName)) ∈ GW := gw_t2 178 rfl rfl
theorem w_380 : (Jvm.Cond.selects "CardHouse$Pile" ({ cls := "CardHouse$Pile", name := "liftIfCan", desc := "(I)Z" } : Jvm.MethodName) ({ cls := "CardHouse$Pile", name := "liftIfCan", desc := "(I)Z" } : Jvm.MethodName)) ∈ GW := gw_t2 179 rfl rfl
theorem w_381 : (Jvm.Cond.code ({ cls := "CardHouse$Pile", name := "liftIfCan", desc := "(I)Z" } : Jvm.MethodName) prog_3_method_18_code (2 : Nat) (Option.some Jvm.ClassFile.FieldType.boolean)) ∈ GW := gw_t2 180 rfl rfl
theorem w_382 : (Jvm.Cond.methodLink "CardHouse$Pile" (86 : Nat) ({ cls := "CardHouse$Pile", name := "canLift", desc := "(I)Z" } : Jvm.MethodName)) ∈ GW := gw_t2 181 rfl rfl
theorem w_383 : (Jvm.Cond.methodLink "CardHouse$Pile" (89 : Nat) ({ cls := "CardHouse$Pile", name := "lift", desc := "(I)V" } : Jvm.MethodName)) ∈ GW := gw_t2 182 rfl rfl
theorem w_384 : (Jvm.Cond.methodLink "CardHouse" (193 : Nat) ({ cls := "CardHouse$Pile", name := "blowIfCan", desc := "(II)Z" } : Jvm.MethodName)) ∈ GW := gw_t2 183 rfl rfl
theorem w_385 : (Jvm.Cond.instanceMethod ({ cls := "CardHouse$Pile", name := "blowIfCan", desc := "(II)Z" } : Jvm.MethodName)) ∈ GW := gw_t2 184 rfl rfl
theorem w_386 : (Jvm.Cond.selects "CardHouse$Pile" ({ cls := "CardHouse$Pile", name := "blowIfCan", desc := "(II)Z" } : Jvm.MethodName) ({ cls := "CardHouse$Pile", name := "blowIfCan", desc := "(II)Z" } : Jvm.MethodName)) ∈ GW := gw_t2 185 rfl rfl
theorem w_387 : (Jvm.Cond.code ({ cls := "CardHouse$Pile", name := "blowIfCan", desc := "(II)Z" } : Jvm.MethodName) prog_3_method_20_code (3 : Nat) (Option.some Jvm.ClassFile.FieldType.boolean)) ∈ GW := gw_t2 186 rfl rfl
theorem w_388 : (Jvm.Cond.methodLink "CardHouse$Pile" (111 : Nat) ({ cls := "CardHouse$Pile", name := "blow", desc := "(II)I" } : Jvm.MethodName)) ∈ GW := gw_t2 188 rfl rfl
theorem w_389 : (Jvm.Cond.methodLink "CardHouseLaw" (87 : Nat) ({ cls := "CardHouse", name := "share", desc := "(IZ)I" } : Jvm.MethodName)) ∈ GW := gw_t2 189 rfl rfl
theorem w_390 : (Jvm.Cond.instanceMethod ({ cls := "CardHouse", name := "share", desc := "(IZ)I" } : Jvm.MethodName)) ∈ GW := gw_t2 190 rfl rfl
theorem w_391 : (Jvm.Cond.selects "CardHouse" ({ cls := "CardHouse", name := "share", desc := "(IZ)I" } : Jvm.MethodName) ({ cls := "CardHouse", name := "share", desc := "(IZ)I" } : Jvm.MethodName)) ∈ GW := gw_t2 191 rfl rfl
theorem w_392 : (Jvm.Cond.code ({ cls := "CardHouse", name := "share", desc := "(IZ)I" } : Jvm.MethodName) prog_1_method_22_code (7 : Nat) (Option.some Jvm.ClassFile.FieldType.int)) ∈ GW := gw_t2 192 rfl rfl
theorem w_393 : (Jvm.Cond.methodLink "CardHouse" (196 : Nat) ({ cls := "CardHouse$Pile", name := "sizeWithout", desc := "(I)I" } : Jvm.MethodName)) ∈ GW := gw_t2 193 rfl rfl
theorem w_394 : (Jvm.Cond.instanceMethod ({ cls := "CardHouse$Pile", name := "sizeWithout", desc := "(I)I" } : Jvm.MethodName)) ∈ GW := gw_t2 194 rfl rfl
theorem w_395 : (Jvm.Cond.selects "CardHouse$Pile" ({ cls := "CardHouse$Pile", name := "sizeWithout", desc := "(I)I" } : Jvm.MethodName) ({ cls := "CardHouse$Pile", name := "sizeWithout", desc := "(I)I" } : Jvm.MethodName)) ∈ GW := gw_t2 195 rfl rfl
theorem w_396 : (Jvm.Cond.code ({ cls := "CardHouse$Pile", name := "sizeWithout", desc := "(I)I" } : Jvm.MethodName) prog_3_method_26_code (2 : Nat) (Option.some Jvm.ClassFile.FieldType.int)) ∈ GW := gw_t2 196 rfl rfl
theorem w_397 : (Jvm.Cond.methodLink "CardHouse$Pile" (123 : Nat) ({ cls := "CardHouse$Pile", name := "size", desc := "()I" } : Jvm.MethodName)) ∈ GW := gw_t2 197 rfl rfl
theorem w_398 : (Jvm.Cond.fieldLink "CardHouse" (199 : Nat) "CardHouse" "ORDERS" "[I") ∈ GW := gw_t2 198 rfl rfl
theorem w_399 : (Jvm.Cond.methodLink "CardHouse" (202 : Nat) ({ cls := "CardHouse", name := "partOfFraction", desc := "(IIZ)I" } : Jvm.MethodName)) ∈ GW := gw_t2 200 rfl rfl
theorem w_400 : (Jvm.Cond.static ({ cls := "CardHouse", name := "partOfFraction", desc := "(IIZ)I" } : Jvm.MethodName)) ∈ GW := gw_t2 201 rfl rfl
theorem w_401 : (Jvm.Cond.code ({ cls := "CardHouse", name := "partOfFraction", desc := "(IIZ)I" } : Jvm.MethodName) prog_1_method_44_code (4 : Nat) (Option.some Jvm.ClassFile.FieldType.int)) ∈ GW := gw_t2 202 rfl rfl
theorem w_402 : (Jvm.Cond.methodLink "CardHouse" (253 : Nat) ({ cls := "CardHouse", name := "commonDivisor", desc := "(II)I" } : Jvm.MethodName)) ∈ GW := gw_t2 203 rfl rfl
theorem w_403 : (Jvm.Cond.static ({ cls := "CardHouse", name := "commonDivisor", desc := "(II)I" } : Jvm.MethodName)) ∈ GW := gw_t2 204 rfl rfl
theorem w_404 : (Jvm.Cond.code ({ cls := "CardHouse", name := "commonDivisor", desc := "(II)I" } : Jvm.MethodName) prog_1_method_45_code (6 : Nat) (Option.some Jvm.ClassFile.FieldType.int)) ∈ GW := gw_t2 205 rfl rfl
theorem w_405 : (Jvm.Cond.methodLink "CardHouse" (261 : Nat) ({ cls := "java/lang/Math", name := "abs", desc := "(I)I" } : Jvm.MethodName)) ∈ GW := gw_t2 206 rfl rfl
theorem w_406 : (Jvm.Cond.static ({ cls := "java/lang/Math", name := "abs", desc := "(I)I" } : Jvm.MethodName)) ∈ GW := gw_t2 207 rfl rfl
theorem w_407 : (Jvm.Cond.code ({ cls := "java/lang/Math", name := "abs", desc := "(I)I" } : Jvm.MethodName) prog_9_method_59_code (1 : Nat) (Option.some Jvm.ClassFile.FieldType.int)) ∈ GW := gw_t2 208 rfl rfl
theorem w_408 : (Jvm.Cond.methodLink "CardHouse" (256 : Nat) ({ cls := "java/lang/Math", name := "max", desc := "(II)I" } : Jvm.MethodName)) ∈ GW := gw_t2 209 rfl rfl
theorem w_409 : (Jvm.Cond.methodLink "CardHouseLaw" (92 : Nat) ({ cls := "CardHouse", name := "hold", desc := "(IIII)I" } : Jvm.MethodName)) ∈ GW := gw_t2 210 rfl rfl
theorem w_410 : (Jvm.Cond.instanceMethod ({ cls := "CardHouse", name := "hold", desc := "(IIII)I" } : Jvm.MethodName)) ∈ GW := gw_t2 211 rfl rfl
theorem w_411 : (Jvm.Cond.selects "CardHouse" ({ cls := "CardHouse", name := "hold", desc := "(IIII)I" } : Jvm.MethodName) ({ cls := "CardHouse", name := "hold", desc := "(IIII)I" } : Jvm.MethodName)) ∈ GW := gw_t2 212 rfl rfl
theorem w_412 : (Jvm.Cond.code ({ cls := "CardHouse", name := "hold", desc := "(IIII)I" } : Jvm.MethodName) prog_1_method_23_code (6 : Nat) (Option.some Jvm.ClassFile.FieldType.int)) ∈ GW := gw_t2 213 rfl rfl
theorem w_413 : (Jvm.Cond.methodLink "CardHouse" (206 : Nat) ({ cls := "CardHouse", name := "kindsThatHold", desc := "(II)I" } : Jvm.MethodName)) ∈ GW := gw_t2 214 rfl rfl
theorem w_414 : (Jvm.Cond.static ({ cls := "CardHouse", name := "kindsThatHold", desc := "(II)I" } : Jvm.MethodName)) ∈ GW := gw_t2 215 rfl rfl
theorem w_415 : (Jvm.Cond.code ({ cls := "CardHouse", name := "kindsThatHold", desc := "(II)I" } : Jvm.MethodName) prog_1_method_24_code (4 : Nat) (Option.some Jvm.ClassFile.FieldType.int)) ∈ GW := gw_t2 216 rfl rfl
theorem w_416 : (Jvm.Cond.methodLink "CardHouse" (209 : Nat) ({ cls := "CardHouse", name := "steadiness", desc := "(II)I" } : Jvm.MethodName)) ∈ GW := gw_t2 217 rfl rfl
theorem w_417 : (Jvm.Cond.methodLink "CardHouseLaw" (97 : Nat) ({ cls := "CardHouse", name := "unhold", desc := "()I" } : Jvm.MethodName)) ∈ GW := gw_t2 218 rfl rfl
theorem w_418 : (Jvm.Cond.instanceMethod ({ cls := "CardHouse", name := "unhold", desc := "()I" } : Jvm.MethodName)) ∈ GW := gw_t2 219 rfl rfl
theorem w_419 : (Jvm.Cond.selects "CardHouse" ({ cls := "CardHouse", name := "unhold", desc := "()I" } : Jvm.MethodName) ({ cls := "CardHouse", name := "unhold", desc := "()I" } : Jvm.MethodName)) ∈ GW := gw_t2 220 rfl rfl
theorem w_420 : (Jvm.Cond.code ({ cls := "CardHouse", name := "unhold", desc := "()I" } : Jvm.MethodName) prog_1_method_25_code (2 : Nat) (Option.some Jvm.ClassFile.FieldType.int)) ∈ GW := gw_t2 221 rfl rfl
theorem w_421 : (Jvm.Cond.methodLink "CardHouseLaw" (101 : Nat) ({ cls := "CardHouse", name := "tents", desc := "(I)I" } : Jvm.MethodName)) ∈ GW := gw_t2 222 rfl rfl
theorem w_422 : (Jvm.Cond.instanceMethod ({ cls := "CardHouse", name := "tents", desc := "(I)I" } : Jvm.MethodName)) ∈ GW := gw_t2 223 rfl rfl
theorem w_423 : (Jvm.Cond.selects "CardHouse" ({ cls := "CardHouse", name := "tents", desc := "(I)I" } : Jvm.MethodName) ({ cls := "CardHouse", name := "tents", desc := "(I)I" } : Jvm.MethodName)) ∈ GW := gw_t2 224 rfl rfl
theorem w_424 : (Jvm.Cond.code ({ cls := "CardHouse", name := "tents", desc := "(I)I" } : Jvm.MethodName) prog_1_method_26_code (2 : Nat) (Option.some Jvm.ClassFile.FieldType.int)) ∈ GW := gw_t2 225 rfl rfl
theorem w_425 : (Jvm.Cond.methodLink "CardHouse" (212 : Nat) ({ cls := "java/lang/Integer", name := "numberOfTrailingZeros", desc := "(I)I" } : Jvm.MethodName)) ∈ GW := gw_t2 226 rfl rfl
theorem w_426 : (Jvm.Cond.static ({ cls := "java/lang/Integer", name := "numberOfTrailingZeros", desc := "(I)I" } : Jvm.MethodName)) ∈ GW := gw_t2 227 rfl rfl
theorem w_427 : (Jvm.Cond.code ({ cls := "java/lang/Integer", name := "numberOfTrailingZeros", desc := "(I)I" } : Jvm.MethodName) prog_8_method_48_code (2 : Nat) (Option.some Jvm.ClassFile.FieldType.int)) ∈ GW := gw_t2 228 rfl rfl
theorem w_428 : (Jvm.Cond.constant "java/lang/Integer" (264 : Nat) (65536 : Int32)) ∈ GW := gw_t2 229 rfl rfl
theorem w_429 : (Jvm.Cond.methodLink "CardHouseLaw" (105 : Nat) ({ cls := "CardHouse", name := "rests", desc := "(III)I" } : Jvm.MethodName)) ∈ GW := gw_t2 230 rfl rfl
theorem w_430 : (Jvm.Cond.instanceMethod ({ cls := "CardHouse", name := "rests", desc := "(III)I" } : Jvm.MethodName)) ∈ GW := gw_t2 231 rfl rfl
theorem w_431 : (Jvm.Cond.selects "CardHouse" ({ cls := "CardHouse", name := "rests", desc := "(III)I" } : Jvm.MethodName) ({ cls := "CardHouse", name := "rests", desc := "(III)I" } : Jvm.MethodName)) ∈ GW := gw_t2 232 rfl rfl
theorem w_432 : (Jvm.Cond.code ({ cls := "CardHouse", name := "rests", desc := "(III)I" } : Jvm.MethodName) prog_1_method_27_code (6 : Nat) (Option.some Jvm.ClassFile.FieldType.int)) ∈ GW := gw_t2 233 rfl rfl
theorem w_433 : (Jvm.Cond.methodLink "CardHouse" (215 : Nat) ({ cls := "CardHouse", name := "gain", desc := "(II)I" } : Jvm.MethodName)) ∈ GW := gw_t2 234 rfl rfl
theorem w_434 : (Jvm.Cond.instanceMethod ({ cls := "CardHouse", name := "gain", desc := "(II)I" } : Jvm.MethodName)) ∈ GW := gw_t2 236 rfl rfl
theorem w_435 : (Jvm.Cond.code ({ cls := "CardHouse", name := "gain", desc := "(II)I" } : Jvm.MethodName) prog_1_method_28_code (3 : Nat) (Option.some Jvm.ClassFile.FieldType.int)) ∈ GW := gw_t2 237 rfl rfl
theorem w_436 : (Jvm.Cond.methodLink "CardHouse" (218 : Nat) ({ cls := "CardHouse$Contest", name := "note", desc := "(IIII)V" } : Jvm.MethodName)) ∈ GW := gw_t2 238 rfl rfl
theorem w_437 : (Jvm.Cond.instanceMethod ({ cls := "CardHouse$Contest", name := "note", desc := "(IIII)V" } : Jvm.MethodName)) ∈ GW := gw_t2 239 rfl rfl
theorem w_438 : (Jvm.Cond.selects "CardHouse$Contest" ({ cls := "CardHouse$Contest", name := "note", desc := "(IIII)V" } : Jvm.MethodName) ({ cls := "CardHouse$Contest", name := "note", desc := "(IIII)V" } : Jvm.MethodName)) ∈ GW := gw_t3 0 rfl rfl
theorem w_439 : (Jvm.Cond.code ({ cls := "CardHouse$Contest", name := "note", desc := "(IIII)V" } : Jvm.MethodName) prog_2_method_2_code (6 : Nat) (Option.none : Option Jvm.ClassFile.FieldType)) ∈ GW := gw_t3 1 rfl rfl
theorem w_440 : (Jvm.Cond.methodLink "CardHouse" (222 : Nat) ({ cls := "CardHouse$Contest", name := "countAtRest", desc := "()I" } : Jvm.MethodName)) ∈ GW := gw_t3 2 rfl rfl
theorem w_441 : (Jvm.Cond.instanceMethod ({ cls := "CardHouse$Contest", name := "countAtRest", desc := "()I" } : Jvm.MethodName)) ∈ GW := gw_t3 3 rfl rfl
theorem w_442 : (Jvm.Cond.selects "CardHouse$Contest" ({ cls := "CardHouse$Contest", name := "countAtRest", desc := "()I" } : Jvm.MethodName) ({ cls := "CardHouse$Contest", name := "countAtRest", desc := "()I" } : Jvm.MethodName)) ∈ GW := gw_t3 4 rfl rfl
theorem w_443 : (Jvm.Cond.code ({ cls := "CardHouse$Contest", name := "countAtRest", desc := "()I" } : Jvm.MethodName) prog_2_method_3_code (3 : Nat) (Option.some Jvm.ClassFile.FieldType.int)) ∈ GW := gw_t3 5 rfl rfl
theorem w_444 : (Jvm.Cond.methodLink "CardHouse$Contest" (18 : Nat) ({ cls := "CardHouse$Contest", name := "isAtRest", desc := "(I)Z" } : Jvm.MethodName)) ∈ GW := gw_t3 6 rfl rfl
theorem w_445 : (Jvm.Cond.instanceMethod ({ cls := "CardHouse$Contest", name := "isAtRest", desc := "(I)Z" } : Jvm.MethodName)) ∈ GW := gw_t3 8 rfl rfl
theorem w_446 : (Jvm.Cond.code ({ cls := "CardHouse$Contest", name := "isAtRest", desc := "(I)Z" } : Jvm.MethodName) prog_2_method_5_code (5 : Nat) (Option.some Jvm.ClassFile.FieldType.boolean)) ∈ GW := gw_t3 9 rfl rfl
theorem w_447 : (Jvm.Cond.methodLink "CardHouse" (225 : Nat) ({ cls := "CardHouse$Contest", name := "firstAtRest", desc := "()I" } : Jvm.MethodName)) ∈ GW := gw_t3 10 rfl rfl
theorem w_448 : (Jvm.Cond.instanceMethod ({ cls := "CardHouse$Contest", name := "firstAtRest", desc := "()I" } : Jvm.MethodName)) ∈ GW := gw_t3 11 rfl rfl
theorem w_449 : (Jvm.Cond.selects "CardHouse$Contest" ({ cls := "CardHouse$Contest", name := "firstAtRest", desc := "()I" } : Jvm.MethodName) ({ cls := "CardHouse$Contest", name := "firstAtRest", desc := "()I" } : Jvm.MethodName)) ∈ GW := gw_t3 12 rfl rfl
theorem w_450 : (Jvm.Cond.code ({ cls := "CardHouse$Contest", name := "firstAtRest", desc := "()I" } : Jvm.MethodName) prog_2_method_4_code (2 : Nat) (Option.some Jvm.ClassFile.FieldType.int)) ∈ GW := gw_t3 13 rfl rfl
theorem w_451 : (Jvm.Cond.methodLink "CardHouseLaw" (110 : Nat) ({ cls := "CardHouse", name := "shaken", desc := "(IIZ)I" } : Jvm.MethodName)) ∈ GW := gw_t3 14 rfl rfl
theorem w_452 : (Jvm.Cond.instanceMethod ({ cls := "CardHouse", name := "shaken", desc := "(IIZ)I" } : Jvm.MethodName)) ∈ GW := gw_t3 15 rfl rfl
theorem w_453 : (Jvm.Cond.selects "CardHouse" ({ cls := "CardHouse", name := "shaken", desc := "(IIZ)I" } : Jvm.MethodName) ({ cls := "CardHouse", name := "shaken", desc := "(IIZ)I" } : Jvm.MethodName)) ∈ GW := gw_t3 16 rfl rfl
theorem w_454 : (Jvm.Cond.code ({ cls := "CardHouse", name := "shaken", desc := "(IIZ)I" } : Jvm.MethodName) prog_1_method_29_code (7 : Nat) (Option.some Jvm.ClassFile.FieldType.int)) ∈ GW := gw_t3 17 rfl rfl
theorem w_455 : (Jvm.Cond.methodLink "CardHouse" (228 : Nat) ({ cls := "CardHouse", name := "power", desc := "(II)I" } : Jvm.MethodName)) ∈ GW := gw_t3 18 rfl rfl
theorem w_456 : (Jvm.Cond.static ({ cls := "CardHouse", name := "power", desc := "(II)I" } : Jvm.MethodName)) ∈ GW := gw_t3 19 rfl rfl
theorem w_457 : (Jvm.Cond.code ({ cls := "CardHouse", name := "power", desc := "(II)I" } : Jvm.MethodName) prog_1_method_43_code (4 : Nat) (Option.some Jvm.ClassFile.FieldType.int)) ∈ GW := gw_t3 20 rfl rfl
theorem w_458 : (Jvm.Cond.methodLink "CardHouseLaw" (115 : Nat) ({ cls := "CardHouse", name := "seed", desc := "(J)J" } : Jvm.MethodName)) ∈ GW := gw_t3 21 rfl rfl
theorem w_459 : (Jvm.Cond.instanceMethod ({ cls := "CardHouse", name := "seed", desc := "(J)J" } : Jvm.MethodName)) ∈ GW := gw_t3 22 rfl rfl
theorem w_460 : (Jvm.Cond.selects "CardHouse" ({ cls := "CardHouse", name := "seed", desc := "(J)J" } : Jvm.MethodName) ({ cls := "CardHouse", name := "seed", desc := "(J)J" } : Jvm.MethodName)) ∈ GW := gw_t3 23 rfl rfl
theorem w_461 : (Jvm.Cond.code ({ cls := "CardHouse", name := "seed", desc := "(J)J" } : Jvm.MethodName) prog_1_method_30_code (5 : Nat) (Option.some Jvm.ClassFile.FieldType.long)) ∈ GW := gw_t3 24 rfl rfl
theorem w_462 : (Jvm.Cond.methodLink "CardHouseLaw" (120 : Nat) ({ cls := "CardHouse", name := "evenings", desc := "(I)I" } : Jvm.MethodName)) ∈ GW := gw_t3 25 rfl rfl
theorem w_463 : (Jvm.Cond.instanceMethod ({ cls := "CardHouse", name := "evenings", desc := "(I)I" } : Jvm.MethodName)) ∈ GW := gw_t3 26 rfl rfl
theorem w_464 : (Jvm.Cond.selects "CardHouse" ({ cls := "CardHouse", name := "evenings", desc := "(I)I" } : Jvm.MethodName) ({ cls := "CardHouse", name := "evenings", desc := "(I)I" } : Jvm.MethodName)) ∈ GW := gw_t3 27 rfl rfl
theorem w_465 : (Jvm.Cond.code ({ cls := "CardHouse", name := "evenings", desc := "(I)I" } : Jvm.MethodName) prog_1_method_31_code (4 : Nat) (Option.some Jvm.ClassFile.FieldType.int)) ∈ GW := gw_t3 28 rfl rfl
theorem w_466 : (Jvm.Cond.constantLong "CardHouse" (235 : Nat) (6364136223846793005 : Int64)) ∈ GW := gw_t3 29 rfl rfl
theorem w_467 : (Jvm.Cond.constantLong "CardHouse" (237 : Nat) (1442695040888963407 : Int64)) ∈ GW := gw_t3 30 rfl rfl
theorem w_468 : (Jvm.Cond.constantLong "CardHouse" (239 : Nat) (80 : Int64)) ∈ GW := gw_t3 31 rfl rfl
theorem w_469 : (Jvm.Cond.methodLink "CardHouse" (241 : Nat) ({ cls := "CardHouse", name := "passEvening", desc := "(I)V" } : Jvm.MethodName)) ∈ GW := gw_t3 32 rfl rfl
theorem w_470 : (Jvm.Cond.instanceMethod ({ cls := "CardHouse", name := "passEvening", desc := "(I)V" } : Jvm.MethodName)) ∈ GW := gw_t3 34 rfl rfl
theorem w_471 : (Jvm.Cond.code ({ cls := "CardHouse", name := "passEvening", desc := "(I)V" } : Jvm.MethodName) prog_1_method_32_code (2 : Nat) (Option.none : Option Jvm.ClassFile.FieldType)) ∈ GW := gw_t3 35 rfl rfl
theorem w_472 : (Jvm.Cond.methodLink "CardHouseLaw" (124 : Nat) ({ cls := "CardHouse", name := "keep", desc := "(I)I" } : Jvm.MethodName)) ∈ GW := gw_t3 36 rfl rfl
theorem w_473 : (Jvm.Cond.instanceMethod ({ cls := "CardHouse", name := "keep", desc := "(I)I" } : Jvm.MethodName)) ∈ GW := gw_t3 37 rfl rfl
theorem w_474 : (Jvm.Cond.selects "CardHouse" ({ cls := "CardHouse", name := "keep", desc := "(I)I" } : Jvm.MethodName) ({ cls := "CardHouse", name := "keep", desc := "(I)I" } : Jvm.MethodName)) ∈ GW := gw_t3 38 rfl rfl
theorem w_475 : (Jvm.Cond.code ({ cls := "CardHouse", name := "keep", desc := "(I)I" } : Jvm.MethodName) prog_1_method_33_code (2 : Nat) (Option.some Jvm.ClassFile.FieldType.int)) ∈ GW := gw_t3 39 rfl rfl
theorem w_476 : (Jvm.Cond.methodLink "CardHouse" (244 : Nat) ({ cls := "CardHouse", name := "isSlot", desc := "(I)Z" } : Jvm.MethodName)) ∈ GW := gw_t3 40 rfl rfl
theorem w_477 : (Jvm.Cond.static ({ cls := "CardHouse", name := "isSlot", desc := "(I)Z" } : Jvm.MethodName)) ∈ GW := gw_t3 41 rfl rfl
theorem w_478 : (Jvm.Cond.code ({ cls := "CardHouse", name := "isSlot", desc := "(I)Z" } : Jvm.MethodName) prog_1_method_39_code (1 : Nat) (Option.some Jvm.ClassFile.FieldType.boolean)) ∈ GW := gw_t3 42 rfl rfl
theorem w_479 : (Jvm.Cond.methodLink "CardHouseLaw" (128 : Nat) ({ cls := "CardHouse", name := "again", desc := "(I)I" } : Jvm.MethodName)) ∈ GW := gw_t3 43 rfl rfl
theorem w_480 : (Jvm.Cond.instanceMethod ({ cls := "CardHouse", name := "again", desc := "(I)I" } : Jvm.MethodName)) ∈ GW := gw_t3 44 rfl rfl
theorem w_481 : (Jvm.Cond.selects "CardHouse" ({ cls := "CardHouse", name := "again", desc := "(I)I" } : Jvm.MethodName) ({ cls := "CardHouse", name := "again", desc := "(I)I" } : Jvm.MethodName)) ∈ GW := gw_t3 45 rfl rfl
theorem w_482 : (Jvm.Cond.code ({ cls := "CardHouse", name := "again", desc := "(I)I" } : Jvm.MethodName) prog_1_method_34_code (2 : Nat) (Option.some Jvm.ClassFile.FieldType.int)) ∈ GW := gw_t3 46 rfl rfl
theorem w_483 : (Jvm.Cond.classLink "CardHouseLaw" (10 : Nat) "CardHouseModel") ∈ GW := gw_t3 47 rfl rfl
theorem w_484 : (Jvm.Cond.instantiable "CardHouseModel" (26 : Nat)) ∈ GW := gw_t3 48 rfl rfl
theorem w_485 : (Jvm.Cond.methodLink "CardHouseLaw" (12 : Nat) ({ cls := "CardHouseModel", name := "<init>", desc := "()V" } : Jvm.MethodName)) ∈ GW := gw_t3 49 rfl rfl
theorem w_486 : (Jvm.Cond.instanceMethod ({ cls := "CardHouseModel", name := "<init>", desc := "()V" } : Jvm.MethodName)) ∈ GW := gw_t3 50 rfl rfl
theorem w_487 : (Jvm.Cond.code ({ cls := "CardHouseModel", name := "<init>", desc := "()V" } : Jvm.MethodName) prog_7_method_1_code (1 : Nat) (Option.none : Option Jvm.ClassFile.FieldType)) ∈ GW := gw_t3 51 rfl rfl
theorem w_488 : (Jvm.Cond.methodLink "CardHouseModel" (1 : Nat) ({ cls := "java/lang/Object", name := "<init>", desc := "()V" } : Jvm.MethodName)) ∈ GW := gw_t3 52 rfl rfl
theorem w_489 : (Jvm.Cond.fieldLink "CardHouseModel" (59 : Nat) "CardHouseModel" "thrown" "I") ∈ GW := gw_t3 53 rfl rfl
theorem w_490 : (Jvm.Cond.fieldLink "CardHouseModel" (7 : Nat) "CardHouseModel" "text" "[I") ∈ GW := gw_t3 54 rfl rfl
theorem w_491 : (Jvm.Cond.fieldLink "CardHouseModel" (116 : Nat) "CardHouseModel" "textSize" "I") ∈ GW := gw_t3 55 rfl rfl
theorem w_492 : (Jvm.Cond.fieldLink "CardHouseModel" (119 : Nat) "CardHouseModel" "place" "I") ∈ GW := gw_t3 56 rfl rfl
theorem w_493 : (Jvm.Cond.fieldLink "CardHouseModel" (13 : Nat) "CardHouseModel" "cards" "[I") ∈ GW := gw_t3 57 rfl rfl
theorem w_494 : (Jvm.Cond.fieldLink "CardHouseModel" (16 : Nat) "CardHouseModel" "readCards" "[I") ∈ GW := gw_t3 58 rfl rfl
theorem w_495 : (Jvm.Cond.fieldLink "CardHouseModel" (19 : Nat) "CardHouseModel" "readPage" "[I") ∈ GW := gw_t3 59 rfl rfl
theorem w_496 : (Jvm.Cond.fieldLink "CardHouseModel" (22 : Nat) "CardHouseModel" "page" "[I") ∈ GW := gw_t3 60 rfl rfl
theorem w_497 : (Jvm.Cond.fieldLink "CardHouseModel" (25 : Nat) "CardHouseModel" "trial" "[I") ∈ GW := gw_t3 61 rfl rfl
theorem w_498 : (Jvm.Cond.fieldLink "CardHouseModel" (28 : Nat) "CardHouseModel" "loads" "[I") ∈ GW := gw_t3 62 rfl rfl
theorem w_499 : (Jvm.Cond.fieldLink "CardHouseModel" (31 : Nat) "CardHouseModel" "book" "[I") ∈ GW := gw_t3 63 rfl rfl
theorem w_500 : (Jvm.Cond.fieldLink "CardHouseModel" (154 : Nat) "CardHouseModel" "acts" "I") ∈ GW := gw_t3 64 rfl rfl
theorem w_501 : (Jvm.Cond.fieldLink "CardHouseModel" (34 : Nat) "CardHouseModel" "kept" "[I") ∈ GW := gw_t3 65 rfl rfl
theorem w_502 : (Jvm.Cond.fieldLink "CardHouseModel" (37 : Nat) "CardHouseModel" "isKept" "[Z") ∈ GW := gw_t3 66 rfl rfl
theorem w_503 : (Jvm.Cond.fieldLink "CardHouseModel" (169 : Nat) "CardHouseModel" "held" "I") ∈ GW := gw_t3 67 rfl rfl
theorem w_504 : (Jvm.Cond.fieldLink "CardHouseModel" (41 : Nat) "CardHouseModel" "heldWho" "[I") ∈ GW := gw_t3 68 rfl rfl
theorem w_505 : (Jvm.Cond.fieldLink "CardHouseModel" (44 : Nat) "CardHouseModel" "heldForce" "[I") ∈ GW := gw_t3 69 rfl rfl
theorem w_506 : (Jvm.Cond.fieldLink "CardHouseModel" (47 : Nat) "CardHouseModel" "heldLoad" "[I") ∈ GW := gw_t3 70 rfl rfl
theorem w_507 : (Jvm.Cond.fieldLink "CardHouseModel" (50 : Nat) "CardHouseModel" "heldIs" "[I") ∈ GW := gw_t3 71 rfl rfl
theorem w_508 : (Jvm.Cond.fieldLink "CardHouseModel" (259 : Nat) "CardHouseModel" "seed" "J") ∈ GW := gw_t3 72 rfl rfl
theorem w_509 : (Jvm.Cond.fieldLink "CardHouseModel" (240 : Nat) "CardHouseModel" "tentMany" "I") ∈ GW := gw_t3 73 rfl rfl
theorem w_510 : (Jvm.Cond.fieldLink "CardHouseModel" (243 : Nat) "CardHouseModel" "tentFirst" "I") ∈ GW := gw_t3 74 rfl rfl
theorem w_511 : (Jvm.Cond.fieldLink "CardHouseModel" (246 : Nat) "CardHouseModel" "restMany" "I") ∈ GW := gw_t3 75 rfl rfl
theorem w_512 : (Jvm.Cond.fieldLink "CardHouseModel" (249 : Nat) "CardHouseModel" "restFirst" "I") ∈ GW := gw_t3 76 rfl rfl
theorem w_513 : (Jvm.Cond.fieldLink "CardHouseModel" (53 : Nat) "CardHouseModel" "gains" "[I") ∈ GW := gw_t3 77 rfl rfl
theorem w_514 : (Jvm.Cond.fieldLink "CardHouseModel" (56 : Nat) "CardHouseModel" "value" "[I") ∈ GW := gw_t3 78 rfl rfl
theorem w_515 : (Jvm.Cond.lays "CardHouseModel" "CardHouseModel" "thrown" "I") ∈ GW := gw_t3 79 rfl rfl
theorem w_516 : (Jvm.Cond.soleField "CardHouseModel" "thrown") ∈ GW := gw_t3 80 rfl rfl
theorem w_517 : (Jvm.Cond.laysFinal "CardHouseModel" "CardHouseModel" "text" "[I") ∈ GW := gw_t3 81 rfl rfl
theorem w_518 : (Jvm.Cond.soleField "CardHouseModel" "text") ∈ GW := gw_t3 82 rfl rfl
theorem w_519 : (Jvm.Cond.lays "CardHouseModel" "CardHouseModel" "textSize" "I") ∈ GW := gw_t3 83 rfl rfl
theorem w_520 : (Jvm.Cond.soleField "CardHouseModel" "textSize") ∈ GW := gw_t3 84 rfl rfl
theorem w_521 : (Jvm.Cond.lays "CardHouseModel" "CardHouseModel" "place" "I") ∈ GW := gw_t3 85 rfl rfl
theorem w_522 : (Jvm.Cond.soleField "CardHouseModel" "place") ∈ GW := gw_t3 86 rfl rfl
theorem w_523 : (Jvm.Cond.laysFinal "CardHouseModel" "CardHouseModel" "cards" "[I") ∈ GW := gw_t3 87 rfl rfl
theorem w_524 : (Jvm.Cond.soleField "CardHouseModel" "cards") ∈ GW := gw_t3 88 rfl rfl
theorem w_525 : (Jvm.Cond.laysFinal "CardHouseModel" "CardHouseModel" "readCards" "[I") ∈ GW := gw_t3 89 rfl rfl
theorem w_526 : (Jvm.Cond.soleField "CardHouseModel" "readCards") ∈ GW := gw_t3 90 rfl rfl
theorem w_527 : (Jvm.Cond.laysFinal "CardHouseModel" "CardHouseModel" "readPage" "[I") ∈ GW := gw_t3 91 rfl rfl
theorem w_528 : (Jvm.Cond.soleField "CardHouseModel" "readPage") ∈ GW := gw_t3 92 rfl rfl
theorem w_529 : (Jvm.Cond.laysFinal "CardHouseModel" "CardHouseModel" "page" "[I") ∈ GW := gw_t3 93 rfl rfl
theorem w_530 : (Jvm.Cond.soleField "CardHouseModel" "page") ∈ GW := gw_t3 94 rfl rfl
theorem w_531 : (Jvm.Cond.laysFinal "CardHouseModel" "CardHouseModel" "trial" "[I") ∈ GW := gw_t3 95 rfl rfl
theorem w_532 : (Jvm.Cond.soleField "CardHouseModel" "trial") ∈ GW := gw_t3 96 rfl rfl
theorem w_533 : (Jvm.Cond.laysFinal "CardHouseModel" "CardHouseModel" "loads" "[I") ∈ GW := gw_t3 97 rfl rfl
theorem w_534 : (Jvm.Cond.soleField "CardHouseModel" "loads") ∈ GW := gw_t3 98 rfl rfl
theorem w_535 : (Jvm.Cond.laysFinal "CardHouseModel" "CardHouseModel" "book" "[I") ∈ GW := gw_t3 99 rfl rfl
theorem w_536 : (Jvm.Cond.soleField "CardHouseModel" "book") ∈ GW := gw_t3 100 rfl rfl
theorem w_537 : (Jvm.Cond.lays "CardHouseModel" "CardHouseModel" "acts" "I") ∈ GW := gw_t3 101 rfl rfl
theorem w_538 : (Jvm.Cond.soleField "CardHouseModel" "acts") ∈ GW := gw_t3 102 rfl rfl
theorem w_539 : (Jvm.Cond.laysFinal "CardHouseModel" "CardHouseModel" "kept" "[I") ∈ GW := gw_t3 103 rfl rfl
theorem w_540 : (Jvm.Cond.soleField "CardHouseModel" "kept") ∈ GW := gw_t3 104 rfl rfl
theorem w_541 : (Jvm.Cond.laysFinal "CardHouseModel" "CardHouseModel" "isKept" "[Z") ∈ GW := gw_t3 105 rfl rfl
theorem w_542 : (Jvm.Cond.soleField "CardHouseModel" "isKept") ∈ GW := gw_t3 106 rfl rfl
theorem w_543 : (Jvm.Cond.lays "CardHouseModel" "CardHouseModel" "held" "I") ∈ GW := gw_t3 107 rfl rfl
theorem w_544 : (Jvm.Cond.soleField "CardHouseModel" "held") ∈ GW := gw_t3 108 rfl rfl
theorem w_545 : (Jvm.Cond.laysFinal "CardHouseModel" "CardHouseModel" "heldWho" "[I") ∈ GW := gw_t3 109 rfl rfl
theorem w_546 : (Jvm.Cond.soleField "CardHouseModel" "heldWho") ∈ GW := gw_t3 110 rfl rfl
theorem w_547 : (Jvm.Cond.laysFinal "CardHouseModel" "CardHouseModel" "heldForce" "[I") ∈ GW := gw_t3 111 rfl rfl
theorem w_548 : (Jvm.Cond.soleField "CardHouseModel" "heldForce") ∈ GW := gw_t3 112 rfl rfl
theorem w_549 : (Jvm.Cond.laysFinal "CardHouseModel" "CardHouseModel" "heldLoad" "[I") ∈ GW := gw_t3 113 rfl rfl
theorem w_550 : (Jvm.Cond.soleField "CardHouseModel" "heldLoad") ∈ GW := gw_t3 114 rfl rfl
theorem w_551 : (Jvm.Cond.laysFinal "CardHouseModel" "CardHouseModel" "heldIs" "[I") ∈ GW := gw_t3 115 rfl rfl
theorem w_552 : (Jvm.Cond.soleField "CardHouseModel" "heldIs") ∈ GW := gw_t3 116 rfl rfl
theorem w_553 : (Jvm.Cond.lays "CardHouseModel" "CardHouseModel" "seed" "J") ∈ GW := gw_t3 117 rfl rfl
theorem w_554 : (Jvm.Cond.soleField "CardHouseModel" "seed") ∈ GW := gw_t3 118 rfl rfl
theorem w_555 : (Jvm.Cond.lays "CardHouseModel" "CardHouseModel" "tentMany" "I") ∈ GW := gw_t3 119 rfl rfl
theorem w_556 : (Jvm.Cond.soleField "CardHouseModel" "tentMany") ∈ GW := gw_t3 120 rfl rfl
theorem w_557 : (Jvm.Cond.lays "CardHouseModel" "CardHouseModel" "tentFirst" "I") ∈ GW := gw_t3 121 rfl rfl
theorem w_558 : (Jvm.Cond.soleField "CardHouseModel" "tentFirst") ∈ GW := gw_t3 122 rfl rfl
theorem w_559 : (Jvm.Cond.lays "CardHouseModel" "CardHouseModel" "restMany" "I") ∈ GW := gw_t3 123 rfl rfl
theorem w_560 : (Jvm.Cond.soleField "CardHouseModel" "restMany") ∈ GW := gw_t3 124 rfl rfl
theorem w_561 : (Jvm.Cond.lays "CardHouseModel" "CardHouseModel" "restFirst" "I") ∈ GW := gw_t3 125 rfl rfl
theorem w_562 : (Jvm.Cond.soleField "CardHouseModel" "restFirst") ∈ GW := gw_t3 126 rfl rfl
theorem w_563 : (Jvm.Cond.laysFinal "CardHouseModel" "CardHouseModel" "gains" "[I") ∈ GW := gw_t3 127 rfl rfl
theorem w_564 : (Jvm.Cond.soleField "CardHouseModel" "gains") ∈ GW := gw_t3 128 rfl rfl
theorem w_565 : (Jvm.Cond.laysFinal "CardHouseModel" "CardHouseModel" "value" "[I") ∈ GW := gw_t3 129 rfl rfl
theorem w_566 : (Jvm.Cond.soleField "CardHouseModel" "value") ∈ GW := gw_t3 130 rfl rfl
theorem w_567 : (Jvm.Cond.superclass "CardHouseModel" "java/lang/Object") ∈ GW := gw_t3 131 rfl rfl
theorem w_568 : (Jvm.Cond.arrayClass Jvm.ClassFile.FieldType.boolean) ∈ GW := gw_t3 132 rfl rfl
theorem w_569 : (Jvm.Cond.methodLink "CardHouseLaw" (17 : Nat) ({ cls := "CardHouseModel", name := "write", desc := "(I)I" } : Jvm.MethodName)) ∈ GW := gw_t3 133 rfl rfl
theorem w_570 : (Jvm.Cond.instanceMethod ({ cls := "CardHouseModel", name := "write", desc := "(I)I" } : Jvm.MethodName)) ∈ GW := gw_t3 134 rfl rfl
theorem w_571 : (Jvm.Cond.selects "CardHouseModel" ({ cls := "CardHouseModel", name := "write", desc := "(I)I" } : Jvm.MethodName) ({ cls := "CardHouseModel", name := "write", desc := "(I)I" } : Jvm.MethodName)) ∈ GW := gw_t3 135 rfl rfl
theorem w_572 : (Jvm.Cond.code ({ cls := "CardHouseModel", name := "write", desc := "(I)I" } : Jvm.MethodName) prog_7_method_24_code (2 : Nat) (Option.some Jvm.ClassFile.FieldType.int)) ∈ GW := gw_t3 136 rfl rfl
theorem w_573 : (Jvm.Cond.constantLong "CardHouseModel" (114 : Nat) (255 : Int64)) ∈ GW := gw_t3 137 rfl rfl
theorem w_574 : (Jvm.Cond.methodLink "CardHouseModel" (65 : Nat) ({ cls := "CardHouseModel", name := "in", desc := "(JJJ)Z" } : Jvm.MethodName)) ∈ GW := gw_t3 138 rfl rfl
theorem w_575 : (Jvm.Cond.static ({ cls := "CardHouseModel", name := "in", desc := "(JJJ)Z" } : Jvm.MethodName)) ∈ GW := gw_t3 139 rfl rfl
theorem w_576 : (Jvm.Cond.code ({ cls := "CardHouseModel", name := "in", desc := "(JJJ)Z" } : Jvm.MethodName) prog_7_method_3_code (6 : Nat) (Option.some Jvm.ClassFile.FieldType.boolean)) ∈ GW := gw_t3 140 rfl rfl
theorem w_577 : (Jvm.Cond.methodLink "CardHouseLaw" (22 : Nat) ({ cls := "CardHouseModel", name := "wipe", desc := "()I" } : Jvm.MethodName)) ∈ GW := gw_t3 141 rfl rfl
theorem w_578 : (Jvm.Cond.instanceMethod ({ cls := "CardHouseModel", name := "wipe", desc := "()I" } : Jvm.MethodName)) ∈ GW := gw_t3 142 rfl rfl
theorem w_579 : (Jvm.Cond.selects "CardHouseModel" ({ cls := "CardHouseModel", name := "wipe", desc := "()I" } : Jvm.MethodName) ({ cls := "CardHouseModel", name := "wipe", desc := "()I" } : Jvm.MethodName)) ∈ GW := gw_t3 143 rfl rfl
theorem w_580 : (Jvm.Cond.code ({ cls := "CardHouseModel", name := "wipe", desc := "()I" } : Jvm.MethodName) prog_7_method_25_code (2 : Nat) (Option.some Jvm.ClassFile.FieldType.int)) ∈ GW := gw_t3 144 rfl rfl
theorem w_581 : (Jvm.Cond.methodLink "CardHouseLaw" (26 : Nat) ({ cls := "CardHouseModel", name := "fault", desc := "()I" } : Jvm.MethodName)) ∈ GW := gw_t3 145 rfl rfl
theorem w_582 : (Jvm.Cond.instanceMethod ({ cls := "CardHouseModel", name := "fault", desc := "()I" } : Jvm.MethodName)) ∈ GW := gw_t3 146 rfl rfl
theorem w_583 : (Jvm.Cond.selects "CardHouseModel" ({ cls := "CardHouseModel", name := "fault", desc := "()I" } : Jvm.MethodName) ({ cls := "CardHouseModel", name := "fault", desc := "()I" } : Jvm.MethodName)) ∈ GW := gw_t3 147 rfl rfl
theorem w_584 : (Jvm.Cond.code ({ cls := "CardHouseModel", name := "fault", desc := "()I" } : Jvm.MethodName) prog_7_method_33_code (1 : Nat) (Option.some Jvm.ClassFile.FieldType.int)) ∈ GW := gw_t3 148 rfl rfl
theorem w_585 : (Jvm.Cond.methodLink "CardHouseModel" (147 : Nat) ({ cls := "CardHouseModel", name := "readHouse", desc := "()I" } : Jvm.MethodName)) ∈ GW := gw_t3 149 rfl rfl
theorem w_586 : (Jvm.Cond.instanceMethod ({ cls := "CardHouseModel", name := "readHouse", desc := "()I" } : Jvm.MethodName)) ∈ GW := gw_t3 151 rfl rfl
theorem w_587 : (Jvm.Cond.code ({ cls := "CardHouseModel", name := "readHouse", desc := "()I" } : Jvm.MethodName) prog_7_method_32_code (2 : Nat) (Option.some Jvm.ClassFile.FieldType.int)) ∈ GW := gw_t3 152 rfl rfl
theorem w_588 : (Jvm.Cond.methodLink "CardHouseModel" (141 : Nat) ({ cls := "CardHouseModel", name := "readHead", desc := "()Z" } : Jvm.MethodName)) ∈ GW := gw_t3 153 rfl rfl
theorem w_589 : (Jvm.Cond.instanceMethod ({ cls := "CardHouseModel", name := "readHead", desc := "()Z" } : Jvm.MethodName)) ∈ GW := gw_t3 155 rfl rfl
theorem w_590 : (Jvm.Cond.code ({ cls := "CardHouseModel", name := "readHead", desc := "()Z" } : Jvm.MethodName) prog_7_method_31_code (3 : Nat) (Option.some Jvm.ClassFile.FieldType.boolean)) ∈ GW := gw_t3 156 rfl rfl
theorem w_591 : (Jvm.Cond.methodLink "CardHouseModel" (138 : Nat) ({ cls := "CardHouseModel", name := "figure", desc := "(I)I" } : Jvm.MethodName)) ∈ GW := gw_t3 157 rfl rfl
theorem w_592 : (Jvm.Cond.instanceMethod ({ cls := "CardHouseModel", name := "figure", desc := "(I)I" } : Jvm.MethodName)) ∈ GW := gw_t3 159 rfl rfl
theorem w_593 : (Jvm.Cond.code ({ cls := "CardHouseModel", name := "figure", desc := "(I)I" } : Jvm.MethodName) prog_7_method_26_code (2 : Nat) (Option.some Jvm.ClassFile.FieldType.int)) ∈ GW := gw_t3 160 rfl rfl
theorem w_594 : (Jvm.Cond.methodLink "CardHouseModel" (144 : Nat) ({ cls := "CardHouseModel", name := "readPiece", desc := "()Z" } : Jvm.MethodName)) ∈ GW := gw_t3 161 rfl rfl
theorem w_595 : (Jvm.Cond.instanceMethod ({ cls := "CardHouseModel", name := "readPiece", desc := "()Z" } : Jvm.MethodName)) ∈ GW := gw_t3 163 rfl rfl
theorem w_596 : (Jvm.Cond.code ({ cls := "CardHouseModel", name := "readPiece", desc := "()Z" } : Jvm.MethodName) prog_7_method_30_code (3 : Nat) (Option.some Jvm.ClassFile.FieldType.boolean)) ∈ GW := gw_t3 164 rfl rfl
theorem w_597 : (Jvm.Cond.methodLink "CardHouseModel" (131 : Nat) ({ cls := "CardHouseModel", name := "couldAny", desc := "()Z" } : Jvm.MethodName)) ∈ GW := gw_t3 165 rfl rfl
theorem w_598 : (Jvm.Cond.instanceMethod ({ cls := "CardHouseModel", name := "couldAny", desc := "()Z" } : Jvm.MethodName)) ∈ GW := gw_t3 167 rfl rfl
theorem w_599 : (Jvm.Cond.code ({ cls := "CardHouseModel", name := "couldAny", desc := "()Z" } : Jvm.MethodName) prog_7_method_29_code (3 : Nat) (Option.some Jvm.ClassFile.FieldType.boolean)) ∈ GW := gw_t3 168 rfl rfl
theorem w_600 : (Jvm.Cond.methodLink "CardHouseModel" (128 : Nat) ({ cls := "CardHouseModel", name := "couldCome", desc := "(I)Z" } : Jvm.MethodName)) ∈ GW := gw_t3 169 rfl rfl
theorem w_601 : (Jvm.Cond.instanceMethod ({ cls := "CardHouseModel", name := "couldCome", desc := "(I)Z" } : Jvm.MethodName)) ∈ GW := gw_t3 171 rfl rfl
theorem w_602 : (Jvm.Cond.code ({ cls := "CardHouseModel", name := "couldCome", desc := "(I)Z" } : Jvm.MethodName) prog_7_method_28_code (2 : Nat) (Option.some Jvm.ClassFile.FieldType.boolean)) ∈ GW := gw_t3 172 rfl rfl
theorem w_603 : (Jvm.Cond.methodLink "CardHouseModel" (87 : Nat) ({ cls := "CardHouseModel", name := "below", desc := "(I)I" } : Jvm.MethodName)) ∈ GW := gw_t3 173 rfl rfl
theorem w_604 : (Jvm.Cond.static ({ cls := "CardHouseModel", name := "below", desc := "(I)I" } : Jvm.MethodName)) ∈ GW := gw_t3 174 rfl rfl
theorem w_605 : (Jvm.Cond.code ({ cls := "CardHouseModel", name := "below", desc := "(I)I" } : Jvm.MethodName) prog_7_method_12_code (1 : Nat) (Option.some Jvm.ClassFile.FieldType.int)) ∈ GW := gw_t3 175 rfl rfl
theorem w_606 : (Jvm.Cond.methodLink "CardHouseModel" (122 : Nat) ({ cls := "CardHouseModel", name := "there", desc := "([I)I" } : Jvm.MethodName)) ∈ GW := gw_t3 176 rfl rfl
theorem w_607 : (Jvm.Cond.static ({ cls := "CardHouseModel", name := "there", desc := "([I)I" } : Jvm.MethodName)) ∈ GW := gw_t3 177 rfl rfl
theorem w_608 : (Jvm.Cond.code ({ cls := "CardHouseModel", name := "there", desc := "([I)I" } : Jvm.MethodName) prog_7_method_16_code (3 : Nat) (Option.some Jvm.ClassFile.FieldType.int)) ∈ GW := gw_t3 178 rfl rfl
theorem w_609 : (Jvm.Cond.methodLink "CardHouseModel" (125 : Nat) ({ cls := "CardHouseModel", name := "enough", desc := "(II)Z" } : Jvm.MethodName)) ∈ GW := gw_t3 179 rfl rfl
theorem w_610 : (Jvm.Cond.instanceMethod ({ cls := "CardHouseModel", name := "enough", desc := "(II)Z" } : Jvm.MethodName)) ∈ GW := gw_t3 181 rfl rfl
theorem w_611 : (Jvm.Cond.code ({ cls := "CardHouseModel", name := "enough", desc := "(II)Z" } : Jvm.MethodName) prog_7_method_27_code (3 : Nat) (Option.some Jvm.ClassFile.FieldType.boolean)) ∈ GW := gw_t3 182 rfl rfl
theorem w_612 : (Jvm.Cond.methodLink "CardHouseModel" (79 : Nat) ({ cls := "CardHouseModel", name := "used", desc := "([II)I" } : Jvm.MethodName)) ∈ GW := gw_t3 183 rfl rfl
theorem w_613 : (Jvm.Cond.static ({ cls := "CardHouseModel", name := "used", desc := "([II)I" } : Jvm.MethodName)) ∈ GW := gw_t3 184 rfl rfl
theorem w_614 : (Jvm.Cond.code ({ cls := "CardHouseModel", name := "used", desc := "([II)I" } : Jvm.MethodName) prog_7_method_17_code (4 : Nat) (Option.some Jvm.ClassFile.FieldType.int)) ∈ GW := gw_t3 185 rfl rfl
theorem w_615 : (Jvm.Cond.methodLink "CardHouseModel" (75 : Nat) ({ cls := "CardHouseModel", name := "need", desc := "(I)I" } : Jvm.MethodName)) ∈ GW := gw_t3 186 rfl rfl
theorem w_616 : (Jvm.Cond.static ({ cls := "CardHouseModel", name := "need", desc := "(I)I" } : Jvm.MethodName)) ∈ GW := gw_t3 187 rfl rfl
theorem w_617 : (Jvm.Cond.code ({ cls := "CardHouseModel", name := "need", desc := "(I)I" } : Jvm.MethodName) prog_7_method_11_code (1 : Nat) (Option.some Jvm.ClassFile.FieldType.int)) ∈ GW := gw_t3 188 rfl rfl
theorem w_618 : (Jvm.Cond.methodLink "CardHouseModel" (71 : Nat) ({ cls := "CardHouseModel", name := "isFlat", desc := "(I)Z" } : Jvm.MethodName)) ∈ GW := gw_t3 189 rfl rfl
theorem w_619 : (Jvm.Cond.static ({ cls := "CardHouseModel", name := "isFlat", desc := "(I)Z" } : Jvm.MethodName)) ∈ GW := gw_t3 190 rfl rfl
theorem w_620 : (Jvm.Cond.code ({ cls := "CardHouseModel", name := "isFlat", desc := "(I)Z" } : Jvm.MethodName) prog_7_method_10_code (1 : Nat) (Option.some Jvm.ClassFile.FieldType.boolean)) ∈ GW := gw_t3 191 rfl rfl
theorem w_621 : (Jvm.Cond.methodLink "CardHouseModel" (135 : Nat) ({ cls := "CardHouseModel", name := "noPiece", desc := "(I)Z" } : Jvm.MethodName)) ∈ GW := gw_t3 192 rfl rfl
theorem w_622 : (Jvm.Cond.static ({ cls := "CardHouseModel", name := "noPiece", desc := "(I)Z" } : Jvm.MethodName)) ∈ GW := gw_t3 193 rfl rfl
theorem w_623 : (Jvm.Cond.code ({ cls := "CardHouseModel", name := "noPiece", desc := "(I)Z" } : Jvm.MethodName) prog_7_method_7_code (1 : Nat) (Option.some Jvm.ClassFile.FieldType.boolean)) ∈ GW := gw_t3 194 rfl rfl
theorem w_624 : (Jvm.Cond.constantLong "CardHouseModel" (63 : Nat) (15 : Int64)) ∈ GW := gw_t3 195 rfl rfl
theorem w_625 : (Jvm.Cond.methodLink "CardHouseLaw" (30 : Nat) ({ cls := "CardHouseModel", name := "house", desc := "()I" } : Jvm.MethodName)) ∈ GW := gw_t3 196 rfl rfl
theorem w_626 : (Jvm.Cond.instanceMethod ({ cls := "CardHouseModel", name := "house", desc := "()I" } : Jvm.MethodName)) ∈ GW := gw_t3 197 rfl rfl
theorem w_627 : (Jvm.Cond.selects "CardHouseModel" ({ cls := "CardHouseModel", name := "house", desc := "()I" } : Jvm.MethodName) ({ cls := "CardHouseModel", name := "house", desc := "()I" } : Jvm.MethodName)) ∈ GW := gw_t3 198 rfl rfl
theorem w_628 : (Jvm.Cond.code ({ cls := "CardHouseModel", name := "house", desc := "()I" } : Jvm.MethodName) prog_7_method_34_code (2 : Nat) (Option.some Jvm.ClassFile.FieldType.int)) ∈ GW := gw_t3 199 rfl rfl
theorem w_629 : (Jvm.Cond.methodLink "CardHouseModel" (151 : Nat) ({ cls := "CardHouseModel", name := "settle", desc := "([I)I" } : Jvm.MethodName)) ∈ GW := gw_t3 200 rfl rfl
theorem w_630 : (Jvm.Cond.instanceMethod ({ cls := "CardHouseModel", name := "settle", desc := "([I)I" } : Jvm.MethodName)) ∈ GW := gw_t3 202 rfl rfl
theorem w_631 : (Jvm.Cond.code ({ cls := "CardHouseModel", name := "settle", desc := "([I)I" } : Jvm.MethodName) prog_7_method_23_code (4 : Nat) (Option.some Jvm.ClassFile.FieldType.int)) ∈ GW := gw_t3 203 rfl rfl
theorem w_632 : (Jvm.Cond.methodLink "CardHouseModel" (107 : Nat) ({ cls := "CardHouseModel", name := "weak", desc := "([I)I" } : Jvm.MethodName)) ∈ GW := gw_t3 204 rfl rfl
theorem w_633 : (Jvm.Cond.instanceMethod ({ cls := "CardHouseModel", name := "weak", desc := "([I)I" } : Jvm.MethodName)) ∈ GW := gw_t3 206 rfl rfl
theorem w_634 : (Jvm.Cond.code ({ cls := "CardHouseModel", name := "weak", desc := "([I)I" } : Jvm.MethodName) prog_7_method_22_code (4 : Nat) (Option.some Jvm.ClassFile.FieldType.int)) ∈ GW := gw_t3 207 rfl rfl
theorem w_635 : (Jvm.Cond.methodLink "CardHouseModel" (100 : Nat) ({ cls := "CardHouseModel", name := "layLoads", desc := "([I)V" } : Jvm.MethodName)) ∈ GW := gw_t3 208 rfl rfl
theorem w_636 : (Jvm.Cond.instanceMethod ({ cls := "CardHouseModel", name := "layLoads", desc := "([I)V" } : Jvm.MethodName)) ∈ GW := gw_t3 210 rfl rfl
theorem w_637 : (Jvm.Cond.code ({ cls := "CardHouseModel", name := "layLoads", desc := "([I)V" } : Jvm.MethodName) prog_7_method_19_code (5 : Nat) (Option.none : Option Jvm.ClassFile.FieldType)) ∈ GW := gw_t3 211 rfl rfl
theorem w_638 : (Jvm.Cond.methodLink "CardHouseModel" (83 : Nat) ({ cls := "CardHouseModel", name := "weighs", desc := "(II)I" } : Jvm.MethodName)) ∈ GW := gw_t3 212 rfl rfl
theorem w_639 : (Jvm.Cond.static ({ cls := "CardHouseModel", name := "weighs", desc := "(II)I" } : Jvm.MethodName)) ∈ GW := gw_t3 213 rfl rfl
theorem w_640 : (Jvm.Cond.code ({ cls := "CardHouseModel", name := "weighs", desc := "(II)I" } : Jvm.MethodName) prog_7_method_13_code (2 : Nat) (Option.some Jvm.ClassFile.FieldType.int)) ∈ GW := gw_t3 214 rfl rfl
theorem w_641 : (Jvm.Cond.methodLink "CardHouseModel" (90 : Nat) ({ cls := "CardHouseModel", name := "has", desc := "(II)Z" } : Jvm.MethodName)) ∈ GW := gw_t3 215 rfl rfl
theorem w_642 : (Jvm.Cond.static ({ cls := "CardHouseModel", name := "has", desc := "(II)Z" } : Jvm.MethodName)) ∈ GW := gw_t3 216 rfl rfl
theorem w_643 : (Jvm.Cond.code ({ cls := "CardHouseModel", name := "has", desc := "(II)Z" } : Jvm.MethodName) prog_7_method_4_code (2 : Nat) (Option.some Jvm.ClassFile.FieldType.boolean)) ∈ GW := gw_t3 217 rfl rfl
theorem w_644 : (Jvm.Cond.methodLink "CardHouseModel" (104 : Nat) ({ cls := "CardHouseModel", name := "bearsBy", desc := "(I)I" } : Jvm.MethodName)) ∈ GW := gw_t3 218 rfl rfl
theorem w_645 : (Jvm.Cond.static ({ cls := "CardHouseModel", name := "bearsBy", desc := "(I)I" } : Jvm.MethodName)) ∈ GW := gw_t3 219 rfl rfl
theorem w_646 : (Jvm.Cond.code ({ cls := "CardHouseModel", name := "bearsBy", desc := "(I)I" } : Jvm.MethodName) prog_7_method_14_code (1 : Nat) (Option.some Jvm.ClassFile.FieldType.int)) ∈ GW := gw_t3 220 rfl rfl
theorem w_647 : (Jvm.Cond.methodLink "CardHouseModel" (111 : Nat) ({ cls := "CardHouseModel", name := "fallAll", desc := "([II)I" } : Jvm.MethodName)) ∈ GW := gw_t3 221 rfl rfl
theorem w_648 : (Jvm.Cond.static ({ cls := "CardHouseModel", name := "fallAll", desc := "([II)I" } : Jvm.MethodName)) ∈ GW := gw_t3 222 rfl rfl
theorem w_649 : (Jvm.Cond.code ({ cls := "CardHouseModel", name := "fallAll", desc := "([II)I" } : Jvm.MethodName) prog_7_method_21_code (4 : Nat) (Option.some Jvm.ClassFile.FieldType.int)) ∈ GW := gw_t3 223 rfl rfl
theorem w_650 : (Jvm.Cond.methodLink "CardHouseModel" (94 : Nat) ({ cls := "CardHouseModel", name := "spreadOf", desc := "([II)I" } : Jvm.MethodName)) ∈ GW := gw_t3 224 rfl rfl
theorem w_651 : (Jvm.Cond.static ({ cls := "CardHouseModel", name := "spreadOf", desc := "([II)I" } : Jvm.MethodName)) ∈ GW := gw_t3 225 rfl rfl
theorem w_652 : (Jvm.Cond.code ({ cls := "CardHouseModel", name := "spreadOf", desc := "([II)I" } : Jvm.MethodName) prog_7_method_20_code (4 : Nat) (Option.some Jvm.ClassFile.FieldType.int)) ∈ GW := gw_t3 226 rfl rfl
theorem w_653 : (Jvm.Cond.methodLink "CardHouseModel" (97 : Nat) ({ cls := "CardHouseModel", name := "many", desc := "(I)I" } : Jvm.MethodName)) ∈ GW := gw_t3 227 rfl rfl
theorem w_654 : (Jvm.Cond.static ({ cls := "CardHouseModel", name := "many", desc := "(I)I" } : Jvm.MethodName)) ∈ GW := gw_t3 228 rfl rfl
theorem w_655 : (Jvm.Cond.code ({ cls := "CardHouseModel", name := "many", desc := "(I)I" } : Jvm.MethodName) prog_7_method_5_code (3 : Nat) (Option.some Jvm.ClassFile.FieldType.int)) ∈ GW := gw_t3 229 rfl rfl
theorem w_656 : (Jvm.Cond.methodLink "CardHouseLaw" (34 : Nat) ({ cls := "CardHouseModel", name := "about", desc := "(I)I" } : Jvm.MethodName)) ∈ GW := gw_t3 230 rfl rfl
theorem w_657 : (Jvm.Cond.instanceMethod ({ cls := "CardHouseModel", name := "about", desc := "(I)I" } : Jvm.MethodName)) ∈ GW := gw_t3 231 rfl rfl
theorem w_658 : (Jvm.Cond.selects "CardHouseModel" ({ cls := "CardHouseModel", name := "about", desc := "(I)I" } : Jvm.MethodName) ({ cls := "CardHouseModel", name := "about", desc := "(I)I" } : Jvm.MethodName)) ∈ GW := gw_t3 232 rfl rfl
theorem w_659 : (Jvm.Cond.code ({ cls := "CardHouseModel", name := "about", desc := "(I)I" } : Jvm.MethodName) prog_7_method_37_code (2 : Nat) (Option.some Jvm.ClassFile.FieldType.int)) ∈ GW := gw_t3 233 rfl rfl
theorem w_660 : (Jvm.Cond.methodLink "CardHouseModel" (163 : Nat) ({ cls := "CardHouseModel", name := "deckAll", desc := "()I" } : Jvm.MethodName)) ∈ GW := gw_t3 234 rfl rfl
theorem w_661 : (Jvm.Cond.instanceMethod ({ cls := "CardHouseModel", name := "deckAll", desc := "()I" } : Jvm.MethodName)) ∈ GW := gw_t3 236 rfl rfl
theorem w_662 : (Jvm.Cond.code ({ cls := "CardHouseModel", name := "deckAll", desc := "()I" } : Jvm.MethodName) prog_7_method_35_code (1 : Nat) (Option.some Jvm.ClassFile.FieldType.int)) ∈ GW := gw_t3 237 rfl rfl
theorem w_663 : (Jvm.Cond.methodLink "CardHouseModel" (157 : Nat) ({ cls := "CardHouseModel", name := "left", desc := "([II)I" } : Jvm.MethodName)) ∈ GW := gw_t3 238 rfl rfl
theorem w_664 : (Jvm.Cond.instanceMethod ({ cls := "CardHouseModel", name := "left", desc := "([II)I" } : Jvm.MethodName)) ∈ GW := gw_t4 0 rfl rfl
theorem w_665 : (Jvm.Cond.code ({ cls := "CardHouseModel", name := "left", desc := "([II)I" } : Jvm.MethodName) prog_7_method_18_code (3 : Nat) (Option.some Jvm.ClassFile.FieldType.int)) ∈ GW := gw_t4 1 rfl rfl
theorem w_666 : (Jvm.Cond.methodLink "CardHouseModel" (166 : Nat) ({ cls := "CardHouseModel", name := "highest", desc := "()I" } : Jvm.MethodName)) ∈ GW := gw_t4 2 rfl rfl
theorem w_667 : (Jvm.Cond.instanceMethod ({ cls := "CardHouseModel", name := "highest", desc := "()I" } : Jvm.MethodName)) ∈ GW := gw_t4 4 rfl rfl
theorem w_668 : (Jvm.Cond.code ({ cls := "CardHouseModel", name := "highest", desc := "()I" } : Jvm.MethodName) prog_7_method_36_code (3 : Nat) (Option.some Jvm.ClassFile.FieldType.int)) ∈ GW := gw_t4 5 rfl rfl
theorem w_669 : (Jvm.Cond.methodLink "CardHouseModel" (160 : Nat) ({ cls := "CardHouseModel", name := "level", desc := "(I)I" } : Jvm.MethodName)) ∈ GW := gw_t4 6 rfl rfl
theorem w_670 : (Jvm.Cond.static ({ cls := "CardHouseModel", name := "level", desc := "(I)I" } : Jvm.MethodName)) ∈ GW := gw_t4 7 rfl rfl
theorem w_671 : (Jvm.Cond.code ({ cls := "CardHouseModel", name := "level", desc := "(I)I" } : Jvm.MethodName) prog_7_method_9_code (1 : Nat) (Option.some Jvm.ClassFile.FieldType.int)) ∈ GW := gw_t4 8 rfl rfl
theorem w_672 : (Jvm.Cond.methodLink "CardHouseLaw" (38 : Nat) ({ cls := "CardHouseModel", name := "deck", desc := "(I)I" } : Jvm.MethodName)) ∈ GW := gw_t4 9 rfl rfl
theorem w_673 : (Jvm.Cond.instanceMethod ({ cls := "CardHouseModel", name := "deck", desc := "(I)I" } : Jvm.MethodName)) ∈ GW := gw_t4 10 rfl rfl
theorem w_674 : (Jvm.Cond.selects "CardHouseModel" ({ cls := "CardHouseModel", name := "deck", desc := "(I)I" } : Jvm.MethodName) ({ cls := "CardHouseModel", name := "deck", desc := "(I)I" } : Jvm.MethodName)) ∈ GW := gw_t4 11 rfl rfl
theorem w_675 : (Jvm.Cond.code ({ cls := "CardHouseModel", name := "deck", desc := "(I)I" } : Jvm.MethodName) prog_7_method_38_code (2 : Nat) (Option.some Jvm.ClassFile.FieldType.int)) ∈ GW := gw_t4 12 rfl rfl
theorem w_676 : (Jvm.Cond.methodLink "CardHouseModel" (172 : Nat) ({ cls := "CardHouseModel", name := "noKind", desc := "(I)Z" } : Jvm.MethodName)) ∈ GW := gw_t4 13 rfl rfl
theorem w_677 : (Jvm.Cond.static ({ cls := "CardHouseModel", name := "noKind", desc := "(I)Z" } : Jvm.MethodName)) ∈ GW := gw_t4 14 rfl rfl
theorem w_678 : (Jvm.Cond.code ({ cls := "CardHouseModel", name := "noKind", desc := "(I)Z" } : Jvm.MethodName) prog_7_method_8_code (1 : Nat) (Option.some Jvm.ClassFile.FieldType.boolean)) ∈ GW := gw_t4 15 rfl rfl
theorem w_679 : (Jvm.Cond.constantLong "CardHouseModel" (69 : Nat) (3 : Int64)) ∈ GW := gw_t4 16 rfl rfl
theorem w_680 : (Jvm.Cond.methodLink "CardHouseLaw" (43 : Nat) ({ cls := "CardHouseModel", name := "piece", desc := "(II)I" } : Jvm.MethodName)) ∈ GW := gw_t4 17 rfl rfl
theorem w_681 : (Jvm.Cond.instanceMethod ({ cls := "CardHouseModel", name := "piece", desc := "(II)I" } : Jvm.MethodName)) ∈ GW := gw_t4 18 rfl rfl
theorem w_682 : (Jvm.Cond.selects "CardHouseModel" ({ cls := "CardHouseModel", name := "piece", desc := "(II)I" } : Jvm.MethodName) ({ cls := "CardHouseModel", name := "piece", desc := "(II)I" } : Jvm.MethodName)) ∈ GW := gw_t4 19 rfl rfl
theorem w_683 : (Jvm.Cond.code ({ cls := "CardHouseModel", name := "piece", desc := "(II)I" } : Jvm.MethodName) prog_7_method_40_code (3 : Nat) (Option.some Jvm.ClassFile.FieldType.int)) ∈ GW := gw_t4 20 rfl rfl
theorem w_684 : (Jvm.Cond.constantLong "CardHouseModel" (175 : Nat) (4 : Int64)) ∈ GW := gw_t4 21 rfl rfl
theorem w_685 : (Jvm.Cond.methodLink "CardHouseModel" (177 : Nat) ({ cls := "CardHouseModel", name := "isTop", desc := "([II)Z" } : Jvm.MethodName)) ∈ GW := gw_t4 22 rfl rfl
theorem w_686 : (Jvm.Cond.static ({ cls := "CardHouseModel", name := "isTop", desc := "([II)Z" } : Jvm.MethodName)) ∈ GW := gw_t4 23 rfl rfl
theorem w_687 : (Jvm.Cond.code ({ cls := "CardHouseModel", name := "isTop", desc := "([II)Z" } : Jvm.MethodName) prog_7_method_39_code (2 : Nat) (Option.some Jvm.ClassFile.FieldType.boolean)) ∈ GW := gw_t4 24 rfl rfl
theorem w_688 : (Jvm.Cond.methodLink "CardHouseLaw" (47 : Nat) ({ cls := "CardHouseModel", name := "put", desc := "(II)I" } : Jvm.MethodName)) ∈ GW := gw_t4 25 rfl rfl
theorem w_689 : (Jvm.Cond.instanceMethod ({ cls := "CardHouseModel", name := "put", desc := "(II)I" } : Jvm.MethodName)) ∈ GW := gw_t4 26 rfl rfl
theorem w_690 : (Jvm.Cond.selects "CardHouseModel" ({ cls := "CardHouseModel", name := "put", desc := "(II)I" } : Jvm.MethodName) ({ cls := "CardHouseModel", name := "put", desc := "(II)I" } : Jvm.MethodName)) ∈ GW := gw_t4 27 rfl rfl
theorem w_691 : (Jvm.Cond.code ({ cls := "CardHouseModel", name := "put", desc := "(II)I" } : Jvm.MethodName) prog_7_method_44_code (3 : Nat) (Option.some Jvm.ClassFile.FieldType.int)) ∈ GW := gw_t4 28 rfl rfl
theorem w_692 : (Jvm.Cond.methodLink "CardHouseModel" (181 : Nat) ({ cls := "CardHouseModel", name := "canPut", desc := "([III)Z" } : Jvm.MethodName)) ∈ GW := gw_t4 29 rfl rfl
theorem w_693 : (Jvm.Cond.instanceMethod ({ cls := "CardHouseModel", name := "canPut", desc := "([III)Z" } : Jvm.MethodName)) ∈ GW := gw_t4 31 rfl rfl
theorem w_694 : (Jvm.Cond.code ({ cls := "CardHouseModel", name := "canPut", desc := "([III)Z" } : Jvm.MethodName) prog_7_method_42_code (4 : Nat) (Option.some Jvm.ClassFile.FieldType.boolean)) ∈ GW := gw_t4 32 rfl rfl
theorem w_695 : (Jvm.Cond.methodLink "CardHouseModel" (185 : Nat) ({ cls := "CardHouseModel", name := "note", desc := "()V" } : Jvm.MethodName)) ∈ GW := gw_t4 33 rfl rfl
theorem w_696 : (Jvm.Cond.instanceMethod ({ cls := "CardHouseModel", name := "note", desc := "()V" } : Jvm.MethodName)) ∈ GW := gw_t4 35 rfl rfl
theorem w_697 : (Jvm.Cond.code ({ cls := "CardHouseModel", name := "note", desc := "()V" } : Jvm.MethodName) prog_7_method_41_code (2 : Nat) (Option.none : Option Jvm.ClassFile.FieldType)) ∈ GW := gw_t4 36 rfl rfl
theorem w_698 : (Jvm.Cond.methodLink "CardHouseModel" (188 : Nat) ({ cls := "CardHouseModel", name := "goPut", desc := "([III)I" } : Jvm.MethodName)) ∈ GW := gw_t4 37 rfl rfl
theorem w_699 : (Jvm.Cond.instanceMethod ({ cls := "CardHouseModel", name := "goPut", desc := "([III)I" } : Jvm.MethodName)) ∈ GW := gw_t4 39 rfl rfl
theorem w_700 : (Jvm.Cond.code ({ cls := "CardHouseModel", name := "goPut", desc := "([III)I" } : Jvm.MethodName) prog_7_method_43_code (5 : Nat) (Option.some Jvm.ClassFile.FieldType.int)) ∈ GW := gw_t4 40 rfl rfl
theorem w_701 : (Jvm.Cond.methodLink "CardHouseLaw" (51 : Nat) ({ cls := "CardHouseModel", name := "take", desc := "(I)I" } : Jvm.MethodName)) ∈ GW := gw_t4 41 rfl rfl
theorem w_702 : (Jvm.Cond.instanceMethod ({ cls := "CardHouseModel", name := "take", desc := "(I)I" } : Jvm.MethodName)) ∈ GW := gw_t4 42 rfl rfl
theorem w_703 : (Jvm.Cond.selects "CardHouseModel" ({ cls := "CardHouseModel", name := "take", desc := "(I)I" } : Jvm.MethodName) ({ cls := "CardHouseModel", name := "take", desc := "(I)I" } : Jvm.MethodName)) ∈ GW := gw_t4 43 rfl rfl
theorem w_704 : (Jvm.Cond.code ({ cls := "CardHouseModel", name := "take", desc := "(I)I" } : Jvm.MethodName) prog_7_method_45_code (2 : Nat) (Option.some Jvm.ClassFile.FieldType.int)) ∈ GW := gw_t4 44 rfl rfl
theorem w_705 : (Jvm.Cond.methodLink "CardHouseLaw" (55 : Nat) ({ cls := "CardHouseModel", name := "draught", desc := "(II)I" } : Jvm.MethodName)) ∈ GW := gw_t4 45 rfl rfl
theorem w_706 : (Jvm.Cond.instanceMethod ({ cls := "CardHouseModel", name := "draught", desc := "(II)I" } : Jvm.MethodName)) ∈ GW := gw_t4 46 rfl rfl
theorem w_707 : (Jvm.Cond.selects "CardHouseModel" ({ cls := "CardHouseModel", name := "draught", desc := "(II)I" } : Jvm.MethodName) ({ cls := "CardHouseModel", name := "draught", desc := "(II)I" } : Jvm.MethodName)) ∈ GW := gw_t4 47 rfl rfl
theorem w_708 : (Jvm.Cond.code ({ cls := "CardHouseModel", name := "draught", desc := "(II)I" } : Jvm.MethodName) prog_7_method_49_code (3 : Nat) (Option.some Jvm.ClassFile.FieldType.int)) ∈ GW := gw_t4 48 rfl rfl
theorem w_709 : (Jvm.Cond.constantLong "CardHouseModel" (201 : Nat) (9 : Int64)) ∈ GW := gw_t4 49 rfl rfl
theorem w_710 : (Jvm.Cond.methodLink "CardHouseModel" (203 : Nat) ({ cls := "CardHouseModel", name := "goDraught", desc := "([III)I" } : Jvm.MethodName)) ∈ GW := gw_t4 50 rfl rfl
theorem w_711 : (Jvm.Cond.instanceMethod ({ cls := "CardHouseModel", name := "goDraught", desc := "([III)I" } : Jvm.MethodName)) ∈ GW := gw_t4 52 rfl rfl
theorem w_712 : (Jvm.Cond.code ({ cls := "CardHouseModel", name := "goDraught", desc := "([III)I" } : Jvm.MethodName) prog_7_method_48_code (6 : Nat) (Option.some Jvm.ClassFile.FieldType.int)) ∈ GW := gw_t4 53 rfl rfl
theorem w_713 : (Jvm.Cond.methodLink "CardHouseModel" (195 : Nat) ({ cls := "CardHouseModel", name := "isTentOf", desc := "([III)Z" } : Jvm.MethodName)) ∈ GW := gw_t4 54 rfl rfl
theorem w_714 : (Jvm.Cond.instanceMethod ({ cls := "CardHouseModel", name := "isTentOf", desc := "([III)Z" } : Jvm.MethodName)) ∈ GW := gw_t4 56 rfl rfl
theorem w_715 : (Jvm.Cond.code ({ cls := "CardHouseModel", name := "isTentOf", desc := "([III)Z" } : Jvm.MethodName) prog_7_method_46_code (4 : Nat) (Option.some Jvm.ClassFile.FieldType.boolean)) ∈ GW := gw_t4 57 rfl rfl
theorem w_716 : (Jvm.Cond.methodLink "CardHouseModel" (198 : Nat) ({ cls := "CardHouseModel", name := "firm", desc := "([II)I" } : Jvm.MethodName)) ∈ GW := gw_t4 58 rfl rfl
theorem w_717 : (Jvm.Cond.instanceMethod ({ cls := "CardHouseModel", name := "firm", desc := "([II)I" } : Jvm.MethodName)) ∈ GW := gw_t4 60 rfl rfl
theorem w_718 : (Jvm.Cond.code ({ cls := "CardHouseModel", name := "firm", desc := "([II)I" } : Jvm.MethodName) prog_7_method_47_code (3 : Nat) (Option.some Jvm.ClassFile.FieldType.int)) ∈ GW := gw_t4 61 rfl rfl
theorem w_719 : (Jvm.Cond.methodLink "CardHouseModel" (192 : Nat) ({ cls := "CardHouseModel", name := "grip", desc := "(I)I" } : Jvm.MethodName)) ∈ GW := gw_t4 62 rfl rfl
theorem w_720 : (Jvm.Cond.static ({ cls := "CardHouseModel", name := "grip", desc := "(I)I" } : Jvm.MethodName)) ∈ GW := gw_t4 63 rfl rfl
theorem w_721 : (Jvm.Cond.code ({ cls := "CardHouseModel", name := "grip", desc := "(I)I" } : Jvm.MethodName) prog_7_method_15_code (1 : Nat) (Option.some Jvm.ClassFile.FieldType.int)) ∈ GW := gw_t4 64 rfl rfl
theorem w_722 : (Jvm.Cond.methodLink "CardHouseLaw" (59 : Nat) ({ cls := "CardHouseModel", name := "undo", desc := "()I" } : Jvm.MethodName)) ∈ GW := gw_t4 65 rfl rfl
theorem w_723 : (Jvm.Cond.instanceMethod ({ cls := "CardHouseModel", name := "undo", desc := "()I" } : Jvm.MethodName)) ∈ GW := gw_t4 66 rfl rfl
theorem w_724 : (Jvm.Cond.selects "CardHouseModel" ({ cls := "CardHouseModel", name := "undo", desc := "()I" } : Jvm.MethodName) ({ cls := "CardHouseModel", name := "undo", desc := "()I" } : Jvm.MethodName)) ∈ GW := gw_t4 67 rfl rfl
theorem w_725 : (Jvm.Cond.code ({ cls := "CardHouseModel", name := "undo", desc := "()I" } : Jvm.MethodName) prog_7_method_50_code (2 : Nat) (Option.some Jvm.ClassFile.FieldType.int)) ∈ GW := gw_t4 68 rfl rfl
theorem w_726 : (Jvm.Cond.methodLink "CardHouseLaw" (63 : Nat) ({ cls := "CardHouseModel", name := "open", desc := "(I)I" } : Jvm.MethodName)) ∈ GW := gw_t4 69 rfl rfl
theorem w_727 : (Jvm.Cond.instanceMethod ({ cls := "CardHouseModel", name := "open", desc := "(I)I" } : Jvm.MethodName)) ∈ GW := gw_t4 70 rfl rfl
theorem w_728 : (Jvm.Cond.selects "CardHouseModel" ({ cls := "CardHouseModel", name := "open", desc := "(I)I" } : Jvm.MethodName) ({ cls := "CardHouseModel", name := "open", desc := "(I)I" } : Jvm.MethodName)) ∈ GW := gw_t4 71 rfl rfl
theorem w_729 : (Jvm.Cond.code ({ cls := "CardHouseModel", name := "open", desc := "(I)I" } : Jvm.MethodName) prog_7_method_51_code (4 : Nat) (Option.some Jvm.ClassFile.FieldType.int)) ∈ GW := gw_t4 72 rfl rfl
theorem w_730 : (Jvm.Cond.methodLink "CardHouseLaw" (67 : Nat) ({ cls := "CardHouseModel", name := "spread", desc := "(I)I" } : Jvm.MethodName)) ∈ GW := gw_t4 73 rfl rfl
theorem w_731 : (Jvm.Cond.instanceMethod ({ cls := "CardHouseModel", name := "spread", desc := "(I)I" } : Jvm.MethodName)) ∈ GW := gw_t4 74 rfl rfl
theorem w_732 : (Jvm.Cond.selects "CardHouseModel" ({ cls := "CardHouseModel", name := "spread", desc := "(I)I" } : Jvm.MethodName) ({ cls := "CardHouseModel", name := "spread", desc := "(I)I" } : Jvm.MethodName)) ∈ GW := gw_t4 75 rfl rfl
theorem w_733 : (Jvm.Cond.code ({ cls := "CardHouseModel", name := "spread", desc := "(I)I" } : Jvm.MethodName) prog_7_method_52_code (2 : Nat) (Option.some Jvm.ClassFile.FieldType.int)) ∈ GW := gw_t4 76 rfl rfl
theorem w_734 : (Jvm.Cond.methodLink "CardHouseLaw" (71 : Nat) ({ cls := "CardHouseModel", name := "stands", desc := "(I)I" } : Jvm.MethodName)) ∈ GW := gw_t4 77 rfl rfl
theorem w_735 : (Jvm.Cond.instanceMethod ({ cls := "CardHouseModel", name := "stands", desc := "(I)I" } : Jvm.MethodName)) ∈ GW := gw_t4 78 rfl rfl
theorem w_736 : (Jvm.Cond.selects "CardHouseModel" ({ cls := "CardHouseModel", name := "stands", desc := "(I)I" } : Jvm.MethodName) ({ cls := "CardHouseModel", name := "stands", desc := "(I)I" } : Jvm.MethodName)) ∈ GW := gw_t4 79 rfl rfl
theorem w_737 : (Jvm.Cond.code ({ cls := "CardHouseModel", name := "stands", desc := "(I)I" } : Jvm.MethodName) prog_7_method_53_code (5 : Nat) (Option.some Jvm.ClassFile.FieldType.int)) ∈ GW := gw_t4 80 rfl rfl
theorem w_738 : (Jvm.Cond.methodLink "CardHouseLaw" (75 : Nat) ({ cls := "CardHouseModel", name := "wants", desc := "(II)I" } : Jvm.MethodName)) ∈ GW := gw_t4 81 rfl rfl
theorem w_739 : (Jvm.Cond.instanceMethod ({ cls := "CardHouseModel", name := "wants", desc := "(II)I" } : Jvm.MethodName)) ∈ GW := gw_t4 82 rfl rfl
theorem w_740 : (Jvm.Cond.selects "CardHouseModel" ({ cls := "CardHouseModel", name := "wants", desc := "(II)I" } : Jvm.MethodName) ({ cls := "CardHouseModel", name := "wants", desc := "(II)I" } : Jvm.MethodName)) ∈ GW := gw_t4 83 rfl rfl
theorem w_741 : (Jvm.Cond.code ({ cls := "CardHouseModel", name := "wants", desc := "(II)I" } : Jvm.MethodName) prog_7_method_55_code (6 : Nat) (Option.some Jvm.ClassFile.FieldType.int)) ∈ GW := gw_t4 84 rfl rfl
theorem w_742 : (Jvm.Cond.methodLink "CardHouseModel" (206 : Nat) ({ cls := "CardHouseModel", name := "wanted", desc := "([II)I" } : Jvm.MethodName)) ∈ GW := gw_t4 85 rfl rfl
theorem w_743 : (Jvm.Cond.static ({ cls := "CardHouseModel", name := "wanted", desc := "([II)I" } : Jvm.MethodName)) ∈ GW := gw_t4 86 rfl rfl
theorem w_744 : (Jvm.Cond.code ({ cls := "CardHouseModel", name := "wanted", desc := "([II)I" } : Jvm.MethodName) prog_7_method_54_code (4 : Nat) (Option.some Jvm.ClassFile.FieldType.int)) ∈ GW := gw_t4 87 rfl rfl
theorem w_745 : (Jvm.Cond.methodLink "CardHouseLaw" (79 : Nat) ({ cls := "CardHouseModel", name := "fit", desc := "(I)I" } : Jvm.MethodName)) ∈ GW := gw_t4 88 rfl rfl
theorem w_746 : (Jvm.Cond.instanceMethod ({ cls := "CardHouseModel", name := "fit", desc := "(I)I" } : Jvm.MethodName)) ∈ GW := gw_t4 89 rfl rfl
theorem w_747 : (Jvm.Cond.selects "CardHouseModel" ({ cls := "CardHouseModel", name := "fit", desc := "(I)I" } : Jvm.MethodName) ({ cls := "CardHouseModel", name := "fit", desc := "(I)I" } : Jvm.MethodName)) ∈ GW := gw_t4 90 rfl rfl
theorem w_748 : (Jvm.Cond.code ({ cls := "CardHouseModel", name := "fit", desc := "(I)I" } : Jvm.MethodName) prog_7_method_57_code (3 : Nat) (Option.some Jvm.ClassFile.FieldType.int)) ∈ GW := gw_t4 91 rfl rfl
theorem w_749 : (Jvm.Cond.methodLink "CardHouseModel" (209 : Nat) ({ cls := "CardHouseModel", name := "begin", desc := "()V" } : Jvm.MethodName)) ∈ GW := gw_t4 92 rfl rfl
theorem w_750 : (Jvm.Cond.instanceMethod ({ cls := "CardHouseModel", name := "begin", desc := "()V" } : Jvm.MethodName)) ∈ GW := gw_t4 94 rfl rfl
theorem w_751 : (Jvm.Cond.code ({ cls := "CardHouseModel", name := "begin", desc := "()V" } : Jvm.MethodName) prog_7_method_56_code (2 : Nat) (Option.none : Option Jvm.ClassFile.FieldType)) ∈ GW := gw_t4 95 rfl rfl
theorem w_752 : (Jvm.Cond.methodLink "CardHouseLaw" (86 : Nat) ({ cls := "CardHouseModel", name := "judge", desc := "(IJ)I" } : Jvm.MethodName)) ∈ GW := gw_t4 96 rfl rfl
theorem w_753 : (Jvm.Cond.instanceMethod ({ cls := "CardHouseModel", name := "judge", desc := "(IJ)I" } : Jvm.MethodName)) ∈ GW := gw_t4 97 rfl rfl
theorem w_754 : (Jvm.Cond.selects "CardHouseModel" ({ cls := "CardHouseModel", name := "judge", desc := "(IJ)I" } : Jvm.MethodName) ({ cls := "CardHouseModel", name := "judge", desc := "(IJ)I" } : Jvm.MethodName)) ∈ GW := gw_t4 98 rfl rfl
theorem w_755 : (Jvm.Cond.code ({ cls := "CardHouseModel", name := "judge", desc := "(IJ)I" } : Jvm.MethodName) prog_7_method_63_code (5 : Nat) (Option.some Jvm.ClassFile.FieldType.int)) ∈ GW := gw_t4 99 rfl rfl
theorem w_756 : (Jvm.Cond.constantLong "CardHouseModel" (221 : Nat) (10000 : Int64)) ∈ GW := gw_t4 100 rfl rfl
theorem w_757 : (Jvm.Cond.methodLink "CardHouseModel" (223 : Nat) ({ cls := "CardHouseModel", name := "longPower", desc := "(JI)J" } : Jvm.MethodName)) ∈ GW := gw_t4 101 rfl rfl
theorem w_758 : (Jvm.Cond.static ({ cls := "CardHouseModel", name := "longPower", desc := "(JI)J" } : Jvm.MethodName)) ∈ GW := gw_t4 102 rfl rfl
theorem w_759 : (Jvm.Cond.code ({ cls := "CardHouseModel", name := "longPower", desc := "(JI)J" } : Jvm.MethodName) prog_7_method_58_code (6 : Nat) (Option.some Jvm.ClassFile.FieldType.long)) ∈ GW := gw_t4 103 rfl rfl
theorem w_760 : (Jvm.Cond.methodLink "CardHouseModel" (227 : Nat) ({ cls := "CardHouseModel", name := "does", desc := "(I)Z" } : Jvm.MethodName)) ∈ GW := gw_t4 104 rfl rfl
theorem w_761 : (Jvm.Cond.instanceMethod ({ cls := "CardHouseModel", name := "does", desc := "(I)Z" } : Jvm.MethodName)) ∈ GW := gw_t4 106 rfl rfl
theorem w_762 : (Jvm.Cond.code ({ cls := "CardHouseModel", name := "does", desc := "(I)Z" } : Jvm.MethodName) prog_7_method_62_code (5 : Nat) (Option.some Jvm.ClassFile.FieldType.boolean)) ∈ GW := gw_t4 107 rfl rfl
theorem w_763 : (Jvm.Cond.methodLink "CardHouseModel" (212 : Nat) ({ cls := "CardHouseModel", name := "puts", desc := "(II)Z" } : Jvm.MethodName)) ∈ GW := gw_t4 108 rfl rfl
theorem w_764 : (Jvm.Cond.instanceMethod ({ cls := "CardHouseModel", name := "puts", desc := "(II)Z" } : Jvm.MethodName)) ∈ GW := gw_t4 110 rfl rfl
theorem w_765 : (Jvm.Cond.code ({ cls := "CardHouseModel", name := "puts", desc := "(II)Z" } : Jvm.MethodName) prog_7_method_59_code (4 : Nat) (Option.some Jvm.ClassFile.FieldType.boolean)) ∈ GW := gw_t4 111 rfl rfl
theorem w_766 : (Jvm.Cond.methodLink "CardHouseModel" (215 : Nat) ({ cls := "CardHouseModel", name := "takes", desc := "(I)Z" } : Jvm.MethodName)) ∈ GW := gw_t4 112 rfl rfl
theorem w_767 : (Jvm.Cond.instanceMethod ({ cls := "CardHouseModel", name := "takes", desc := "(I)Z" } : Jvm.MethodName)) ∈ GW := gw_t4 114 rfl rfl
theorem w_768 : (Jvm.Cond.code ({ cls := "CardHouseModel", name := "takes", desc := "(I)Z" } : Jvm.MethodName) prog_7_method_60_code (3 : Nat) (Option.some Jvm.ClassFile.FieldType.boolean)) ∈ GW := gw_t4 115 rfl rfl
theorem w_769 : (Jvm.Cond.methodLink "CardHouseModel" (218 : Nat) ({ cls := "CardHouseModel", name := "blows", desc := "(II)Z" } : Jvm.MethodName)) ∈ GW := gw_t4 116 rfl rfl
theorem w_770 : (Jvm.Cond.instanceMethod ({ cls := "CardHouseModel", name := "blows", desc := "(II)Z" } : Jvm.MethodName)) ∈ GW := gw_t4 118 rfl rfl
theorem w_771 : (Jvm.Cond.code ({ cls := "CardHouseModel", name := "blows", desc := "(II)Z" } : Jvm.MethodName) prog_7_method_61_code (4 : Nat) (Option.some Jvm.ClassFile.FieldType.boolean)) ∈ GW := gw_t4 119 rfl rfl
theorem w_772 : (Jvm.Cond.methodLink "CardHouseLaw" (91 : Nat) ({ cls := "CardHouseModel", name := "share", desc := "(IZ)I" } : Jvm.MethodName)) ∈ GW := gw_t4 120 rfl rfl
theorem w_773 : (Jvm.Cond.instanceMethod ({ cls := "CardHouseModel", name := "share", desc := "(IZ)I" } : Jvm.MethodName)) ∈ GW := gw_t4 121 rfl rfl
theorem w_774 : (Jvm.Cond.selects "CardHouseModel" ({ cls := "CardHouseModel", name := "share", desc := "(IZ)I" } : Jvm.MethodName) ({ cls := "CardHouseModel", name := "share", desc := "(IZ)I" } : Jvm.MethodName)) ∈ GW := gw_t4 122 rfl rfl
theorem w_775 : (Jvm.Cond.code ({ cls := "CardHouseModel", name := "share", desc := "(IZ)I" } : Jvm.MethodName) prog_7_method_67_code (6 : Nat) (Option.some Jvm.ClassFile.FieldType.int)) ∈ GW := gw_t4 123 rfl rfl
theorem w_776 : (Jvm.Cond.methodLink "CardHouseModel" (233 : Nat) ({ cls := "CardHouseModel", name := "ways", desc := "(I)I" } : Jvm.MethodName)) ∈ GW := gw_t4 124 rfl rfl
theorem w_777 : (Jvm.Cond.static ({ cls := "CardHouseModel", name := "ways", desc := "(I)I" } : Jvm.MethodName)) ∈ GW := gw_t4 125 rfl rfl
theorem w_778 : (Jvm.Cond.code ({ cls := "CardHouseModel", name := "ways", desc := "(I)I" } : Jvm.MethodName) prog_7_method_64_code (3 : Nat) (Option.some Jvm.ClassFile.FieldType.int)) ∈ GW := gw_t4 126 rfl rfl
theorem w_779 : (Jvm.Cond.methodLink "CardHouseModel" (236 : Nat) ({ cls := "CardHouseModel", name := "fraction", desc := "(IIZ)I" } : Jvm.MethodName)) ∈ GW := gw_t4 127 rfl rfl
theorem w_780 : (Jvm.Cond.static ({ cls := "CardHouseModel", name := "fraction", desc := "(IIZ)I" } : Jvm.MethodName)) ∈ GW := gw_t4 128 rfl rfl
theorem w_781 : (Jvm.Cond.code ({ cls := "CardHouseModel", name := "fraction", desc := "(IIZ)I" } : Jvm.MethodName) prog_7_method_66_code (4 : Nat) (Option.some Jvm.ClassFile.FieldType.int)) ∈ GW := gw_t4 129 rfl rfl
theorem w_782 : (Jvm.Cond.methodLink "CardHouseModel" (230 : Nat) ({ cls := "CardHouseModel", name := "divisor", desc := "(II)I" } : Jvm.MethodName)) ∈ GW := gw_t4 130 rfl rfl
theorem w_783 : (Jvm.Cond.static ({ cls := "CardHouseModel", name := "divisor", desc := "(II)I" } : Jvm.MethodName)) ∈ GW := gw_t4 131 rfl rfl
theorem w_784 : (Jvm.Cond.code ({ cls := "CardHouseModel", name := "divisor", desc := "(II)I" } : Jvm.MethodName) prog_7_method_65_code (5 : Nat) (Option.some Jvm.ClassFile.FieldType.int)) ∈ GW := gw_t4 132 rfl rfl
theorem w_785 : (Jvm.Cond.methodLink "CardHouseLaw" (96 : Nat) ({ cls := "CardHouseModel", name := "hold", desc := "(IIII)I" } : Jvm.MethodName)) ∈ GW := gw_t4 133 rfl rfl
theorem w_786 : (Jvm.Cond.instanceMethod ({ cls := "CardHouseModel", name := "hold", desc := "(IIII)I" } : Jvm.MethodName)) ∈ GW := gw_t4 134 rfl rfl
theorem w_787 : (Jvm.Cond.selects "CardHouseModel" ({ cls := "CardHouseModel", name := "hold", desc := "(IIII)I" } : Jvm.MethodName) ({ cls := "CardHouseModel", name := "hold", desc := "(IIII)I" } : Jvm.MethodName)) ∈ GW := gw_t4 135 rfl rfl
theorem w_788 : (Jvm.Cond.code ({ cls := "CardHouseModel", name := "hold", desc := "(IIII)I" } : Jvm.MethodName) prog_7_method_68_code (5 : Nat) (Option.some Jvm.ClassFile.FieldType.int)) ∈ GW := gw_t4 136 rfl rfl
theorem w_789 : (Jvm.Cond.methodLink "CardHouseLaw" (100 : Nat) ({ cls := "CardHouseModel", name := "unhold", desc := "()I" } : Jvm.MethodName)) ∈ GW := gw_t4 137 rfl rfl
theorem w_790 : (Jvm.Cond.instanceMethod ({ cls := "CardHouseModel", name := "unhold", desc := "()I" } : Jvm.MethodName)) ∈ GW := gw_t4 138 rfl rfl
theorem w_791 : (Jvm.Cond.selects "CardHouseModel" ({ cls := "CardHouseModel", name := "unhold", desc := "()I" } : Jvm.MethodName) ({ cls := "CardHouseModel", name := "unhold", desc := "()I" } : Jvm.MethodName)) ∈ GW := gw_t4 139 rfl rfl
theorem w_792 : (Jvm.Cond.code ({ cls := "CardHouseModel", name := "unhold", desc := "()I" } : Jvm.MethodName) prog_7_method_69_code (2 : Nat) (Option.some Jvm.ClassFile.FieldType.int)) ∈ GW := gw_t4 140 rfl rfl
theorem w_793 : (Jvm.Cond.methodLink "CardHouseLaw" (104 : Nat) ({ cls := "CardHouseModel", name := "tents", desc := "(I)I" } : Jvm.MethodName)) ∈ GW := gw_t4 141 rfl rfl
theorem w_794 : (Jvm.Cond.instanceMethod ({ cls := "CardHouseModel", name := "tents", desc := "(I)I" } : Jvm.MethodName)) ∈ GW := gw_t4 142 rfl rfl
theorem w_795 : (Jvm.Cond.selects "CardHouseModel" ({ cls := "CardHouseModel", name := "tents", desc := "(I)I" } : Jvm.MethodName) ({ cls := "CardHouseModel", name := "tents", desc := "(I)I" } : Jvm.MethodName)) ∈ GW := gw_t4 143 rfl rfl
theorem w_796 : (Jvm.Cond.code ({ cls := "CardHouseModel", name := "tents", desc := "(I)I" } : Jvm.MethodName) prog_7_method_70_code (7 : Nat) (Option.some Jvm.ClassFile.FieldType.int)) ∈ GW := gw_t4 144 rfl rfl
theorem w_797 : (Jvm.Cond.methodLink "CardHouseLaw" (109 : Nat) ({ cls := "CardHouseModel", name := "rests", desc := "(III)I" } : Jvm.MethodName)) ∈ GW := gw_t4 145 rfl rfl
theorem w_798 : (Jvm.Cond.instanceMethod ({ cls := "CardHouseModel", name := "rests", desc := "(III)I" } : Jvm.MethodName)) ∈ GW := gw_t4 146 rfl rfl
theorem w_799 : (Jvm.Cond.selects "CardHouseModel" ({ cls := "CardHouseModel", name := "rests", desc := "(III)I" } : Jvm.MethodName) ({ cls := "CardHouseModel", name := "rests", desc := "(III)I" } : Jvm.MethodName)) ∈ GW := gw_t4 147 rfl rfl
theorem w_800 : (Jvm.Cond.code ({ cls := "CardHouseModel", name := "rests", desc := "(III)I" } : Jvm.MethodName) prog_7_method_71_code (7 : Nat) (Option.some Jvm.ClassFile.FieldType.int)) ∈ GW := gw_t4 148 rfl rfl
theorem w_801 : (Jvm.Cond.methodLink "CardHouseLaw" (114 : Nat) ({ cls := "CardHouseModel", name := "shaken", desc := "(IIZ)I" } : Jvm.MethodName)) ∈ GW := gw_t4 149 rfl rfl
theorem w_802 : (Jvm.Cond.instanceMethod ({ cls := "CardHouseModel", name := "shaken", desc := "(IIZ)I" } : Jvm.MethodName)) ∈ GW := gw_t4 150 rfl rfl
theorem w_803 : (Jvm.Cond.selects "CardHouseModel" ({ cls := "CardHouseModel", name := "shaken", desc := "(IIZ)I" } : Jvm.MethodName) ({ cls := "CardHouseModel", name := "shaken", desc := "(IIZ)I" } : Jvm.MethodName)) ∈ GW := gw_t4 151 rfl rfl
theorem w_804 : (Jvm.Cond.code ({ cls := "CardHouseModel", name := "shaken", desc := "(IIZ)I" } : Jvm.MethodName) prog_7_method_72_code (10 : Nat) (Option.some Jvm.ClassFile.FieldType.int)) ∈ GW := gw_t4 152 rfl rfl
theorem w_805 : (Jvm.Cond.constantLong "CardHouseModel" (252 : Nat) (16 : Int64)) ∈ GW := gw_t4 153 rfl rfl
theorem w_806 : (Jvm.Cond.constantLong "CardHouseModel" (254 : Nat) (10 : Int64)) ∈ GW := gw_t4 154 rfl rfl
theorem w_807 : (Jvm.Cond.methodLink "CardHouseModel" (256 : Nat) ({ cls := "CardHouseModel", name := "power", desc := "(II)I" } : Jvm.MethodName)) ∈ GW := gw_t4 155 rfl rfl
theorem w_808 : (Jvm.Cond.static ({ cls := "CardHouseModel", name := "power", desc := "(II)I" } : Jvm.MethodName)) ∈ GW := gw_t4 156 rfl rfl
theorem w_809 : (Jvm.Cond.code ({ cls := "CardHouseModel", name := "power", desc := "(II)I" } : Jvm.MethodName) prog_7_method_6_code (4 : Nat) (Option.some Jvm.ClassFile.FieldType.int)) ∈ GW := gw_t4 157 rfl rfl
theorem w_810 : (Jvm.Cond.methodLink "CardHouseLaw" (119 : Nat) ({ cls := "CardHouseModel", name := "seed", desc := "(J)J" } : Jvm.MethodName)) ∈ GW := gw_t4 158 rfl rfl
theorem w_811 : (Jvm.Cond.instanceMethod ({ cls := "CardHouseModel", name := "seed", desc := "(J)J" } : Jvm.MethodName)) ∈ GW := gw_t4 159 rfl rfl
theorem w_812 : (Jvm.Cond.selects "CardHouseModel" ({ cls := "CardHouseModel", name := "seed", desc := "(J)J" } : Jvm.MethodName) ({ cls := "CardHouseModel", name := "seed", desc := "(J)J" } : Jvm.MethodName)) ∈ GW := gw_t4 160 rfl rfl
theorem w_813 : (Jvm.Cond.code ({ cls := "CardHouseModel", name := "seed", desc := "(J)J" } : Jvm.MethodName) prog_7_method_73_code (5 : Nat) (Option.some Jvm.ClassFile.FieldType.long)) ∈ GW := gw_t4 161 rfl rfl
theorem w_814 : (Jvm.Cond.methodLink "CardHouseLaw" (123 : Nat) ({ cls := "CardHouseModel", name := "evenings", desc := "(I)I" } : Jvm.MethodName)) ∈ GW := gw_t4 162 rfl rfl
theorem w_815 : (Jvm.Cond.instanceMethod ({ cls := "CardHouseModel", name := "evenings", desc := "(I)I" } : Jvm.MethodName)) ∈ GW := gw_t4 163 rfl rfl
theorem w_816 : (Jvm.Cond.selects "CardHouseModel" ({ cls := "CardHouseModel", name := "evenings", desc := "(I)I" } : Jvm.MethodName) ({ cls := "CardHouseModel", name := "evenings", desc := "(I)I" } : Jvm.MethodName)) ∈ GW := gw_t4 164 rfl rfl
theorem w_817 : (Jvm.Cond.code ({ cls := "CardHouseModel", name := "evenings", desc := "(I)I" } : Jvm.MethodName) prog_7_method_74_code (5 : Nat) (Option.some Jvm.ClassFile.FieldType.int)) ∈ GW := gw_t4 165 rfl rfl
theorem w_818 : (Jvm.Cond.constantLong "CardHouseModel" (263 : Nat) (30 : Int64)) ∈ GW := gw_t4 166 rfl rfl
theorem w_819 : (Jvm.Cond.constantLong "CardHouseModel" (265 : Nat) (6364136223846793005 : Int64)) ∈ GW := gw_t4 167 rfl rfl
theorem w_820 : (Jvm.Cond.constantLong "CardHouseModel" (267 : Nat) (1442695040888963407 : Int64)) ∈ GW := gw_t4 168 rfl rfl
theorem w_821 : (Jvm.Cond.constantLong "CardHouseModel" (269 : Nat) (80 : Int64)) ∈ GW := gw_t4 169 rfl rfl
theorem w_822 : (Jvm.Cond.methodLink "CardHouseLaw" (127 : Nat) ({ cls := "CardHouseModel", name := "keep", desc := "(I)I" } : Jvm.MethodName)) ∈ GW := gw_t4 170 rfl rfl
theorem w_823 : (Jvm.Cond.instanceMethod ({ cls := "CardHouseModel", name := "keep", desc := "(I)I" } : Jvm.MethodName)) ∈ GW := gw_t4 171 rfl rfl
theorem w_824 : (Jvm.Cond.selects "CardHouseModel" ({ cls := "CardHouseModel", name := "keep", desc := "(I)I" } : Jvm.MethodName) ({ cls := "CardHouseModel", name := "keep", desc := "(I)I" } : Jvm.MethodName)) ∈ GW := gw_t4 172 rfl rfl
theorem w_825 : (Jvm.Cond.code ({ cls := "CardHouseModel", name := "keep", desc := "(I)I" } : Jvm.MethodName) prog_7_method_75_code (3 : Nat) (Option.some Jvm.ClassFile.FieldType.int)) ∈ GW := gw_t4 173 rfl rfl
theorem w_826 : (Jvm.Cond.methodLink "CardHouseLaw" (131 : Nat) ({ cls := "CardHouseModel", name := "again", desc := "(I)I" } : Jvm.MethodName)) ∈ GW := gw_t4 174 rfl rfl
theorem w_827 : (Jvm.Cond.instanceMethod ({ cls := "CardHouseModel", name := "again", desc := "(I)I" } : Jvm.MethodName)) ∈ GW := gw_t4 175 rfl rfl
theorem w_828 : (Jvm.Cond.selects "CardHouseModel" ({ cls := "CardHouseModel", name := "again", desc := "(I)I" } : Jvm.MethodName) ({ cls := "CardHouseModel", name := "again", desc := "(I)I" } : Jvm.MethodName)) ∈ GW := gw_t4 176 rfl rfl
theorem w_829 : (Jvm.Cond.code ({ cls := "CardHouseModel", name := "again", desc := "(I)I" } : Jvm.MethodName) prog_7_method_76_code (3 : Nat) (Option.some Jvm.ClassFile.FieldType.int)) ∈ GW := gw_t4 177 rfl rfl
theorem w_830 : (Jvm.Cond.constantLong "CardHouseLaw" (80 : Nat) (4294967295 : Int64)) ∈ GW := gw_t4 178 rfl rfl
theorem w_831 : (Jvm.Cond.arrayClass Jvm.ClassFile.FieldType.long) ∈ GW := gw_t4 179 rfl rfl
theorem w_832 : (Jvm.Cond.selects "CardHouse$Text" ({ cls := "CardHouse$Text", name := "readLetter", desc := "(LCardHouse$Pile;II)Z" } : Jvm.MethodName) ({ cls := "CardHouse$Text", name := "readLetter", desc := "(LCardHouse$Pile;II)Z" } : Jvm.MethodName)) ∈ GW := gw_s 0 rfl rfl
theorem w_833 : (Jvm.Cond.selects "CardHouse$Pile" ({ cls := "CardHouse$Pile", name := "weigh", desc := "()V" } : Jvm.MethodName) ({ cls := "CardHouse$Pile", name := "weigh", desc := "()V" } : Jvm.MethodName)) ∈ GW := gw_s 1 rfl rfl
theorem w_834 : (Jvm.Cond.selects "CardHouse$Pile" ({ cls := "CardHouse$Pile", name := "drop", desc := "(I)I" } : Jvm.MethodName) ({ cls := "CardHouse$Pile", name := "drop", desc := "(I)I" } : Jvm.MethodName)) ∈ GW := gw_s 2 rfl rfl
theorem w_835 : (Jvm.Cond.selects "CardHouse" ({ cls := "CardHouse", name := "cardsInDeck", desc := "()I" } : Jvm.MethodName) ({ cls := "CardHouse", name := "cardsInDeck", desc := "()I" } : Jvm.MethodName)) ∈ GW := gw_s 3 rfl rfl
theorem w_836 : (Jvm.Cond.selects "CardHouse" ({ cls := "CardHouse", name := "recordAct", desc := "()V" } : Jvm.MethodName) ({ cls := "CardHouse", name := "recordAct", desc := "()V" } : Jvm.MethodName)) ∈ GW := gw_s 4 rfl rfl
theorem w_837 : (Jvm.Cond.selects "CardHouse$Pile" ({ cls := "CardHouse$Pile", name := "isTentOfLevel", desc := "(II)Z" } : Jvm.MethodName) ({ cls := "CardHouse$Pile", name := "isTentOfLevel", desc := "(II)Z" } : Jvm.MethodName)) ∈ GW := gw_s 5 rfl rfl
theorem w_838 : (Jvm.Cond.selects "CardHouse" ({ cls := "CardHouse", name := "canBeDone", desc := "(I)Z" } : Jvm.MethodName) ({ cls := "CardHouse", name := "canBeDone", desc := "(I)Z" } : Jvm.MethodName)) ∈ GW := gw_s 6 rfl rfl
theorem w_839 : (Jvm.Cond.selects "CardHouse" ({ cls := "CardHouse", name := "gain", desc := "(II)I" } : Jvm.MethodName) ({ cls := "CardHouse", name := "gain", desc := "(II)I" } : Jvm.MethodName)) ∈ GW := gw_s 7 rfl rfl
theorem w_840 : (Jvm.Cond.selects "CardHouse$Contest" ({ cls := "CardHouse$Contest", name := "isAtRest", desc := "(I)Z" } : Jvm.MethodName) ({ cls := "CardHouse$Contest", name := "isAtRest", desc := "(I)Z" } : Jvm.MethodName)) ∈ GW := gw_s 8 rfl rfl
theorem w_841 : (Jvm.Cond.selects "CardHouse" ({ cls := "CardHouse", name := "passEvening", desc := "(I)V" } : Jvm.MethodName) ({ cls := "CardHouse", name := "passEvening", desc := "(I)V" } : Jvm.MethodName)) ∈ GW := gw_s 9 rfl rfl
theorem w_842 : (Jvm.Cond.selects "CardHouseModel" ({ cls := "CardHouseModel", name := "readHouse", desc := "()I" } : Jvm.MethodName) ({ cls := "CardHouseModel", name := "readHouse", desc := "()I" } : Jvm.MethodName)) ∈ GW := gw_s 10 rfl rfl
theorem w_843 : (Jvm.Cond.selects "CardHouseModel" ({ cls := "CardHouseModel", name := "readHead", desc := "()Z" } : Jvm.MethodName) ({ cls := "CardHouseModel", name := "readHead", desc := "()Z" } : Jvm.MethodName)) ∈ GW := gw_s 11 rfl rfl
theorem w_844 : (Jvm.Cond.selects "CardHouseModel" ({ cls := "CardHouseModel", name := "figure", desc := "(I)I" } : Jvm.MethodName) ({ cls := "CardHouseModel", name := "figure", desc := "(I)I" } : Jvm.MethodName)) ∈ GW := gw_s 12 rfl rfl
theorem w_845 : (Jvm.Cond.selects "CardHouseModel" ({ cls := "CardHouseModel", name := "readPiece", desc := "()Z" } : Jvm.MethodName) ({ cls := "CardHouseModel", name := "readPiece", desc := "()Z" } : Jvm.MethodName)) ∈ GW := gw_s 13 rfl rfl
theorem w_846 : (Jvm.Cond.selects "CardHouseModel" ({ cls := "CardHouseModel", name := "couldAny", desc := "()Z" } : Jvm.MethodName) ({ cls := "CardHouseModel", name := "couldAny", desc := "()Z" } : Jvm.MethodName)) ∈ GW := gw_s 14 rfl rfl
theorem w_847 : (Jvm.Cond.selects "CardHouseModel" ({ cls := "CardHouseModel", name := "couldCome", desc := "(I)Z" } : Jvm.MethodName) ({ cls := "CardHouseModel", name := "couldCome", desc := "(I)Z" } : Jvm.MethodName)) ∈ GW := gw_s 15 rfl rfl
theorem w_848 : (Jvm.Cond.selects "CardHouseModel" ({ cls := "CardHouseModel", name := "enough", desc := "(II)Z" } : Jvm.MethodName) ({ cls := "CardHouseModel", name := "enough", desc := "(II)Z" } : Jvm.MethodName)) ∈ GW := gw_s 16 rfl rfl
theorem w_849 : (Jvm.Cond.selects "CardHouseModel" ({ cls := "CardHouseModel", name := "settle", desc := "([I)I" } : Jvm.MethodName) ({ cls := "CardHouseModel", name := "settle", desc := "([I)I" } : Jvm.MethodName)) ∈ GW := gw_s 17 rfl rfl
theorem w_850 : (Jvm.Cond.selects "CardHouseModel" ({ cls := "CardHouseModel", name := "weak", desc := "([I)I" } : Jvm.MethodName) ({ cls := "CardHouseModel", name := "weak", desc := "([I)I" } : Jvm.MethodName)) ∈ GW := gw_s 18 rfl rfl
theorem w_851 : (Jvm.Cond.selects "CardHouseModel" ({ cls := "CardHouseModel", name := "layLoads", desc := "([I)V" } : Jvm.MethodName) ({ cls := "CardHouseModel", name := "layLoads", desc := "([I)V" } : Jvm.MethodName)) ∈ GW := gw_s 19 rfl rfl
theorem w_852 : (Jvm.Cond.selects "CardHouseModel" ({ cls := "CardHouseModel", name := "deckAll", desc := "()I" } : Jvm.MethodName) ({ cls := "CardHouseModel", name := "deckAll", desc := "()I" } : Jvm.MethodName)) ∈ GW := gw_s 20 rfl rfl
theorem w_853 : (Jvm.Cond.selects "CardHouseModel" ({ cls := "CardHouseModel", name := "left", desc := "([II)I" } : Jvm.MethodName) ({ cls := "CardHouseModel", name := "left", desc := "([II)I" } : Jvm.MethodName)) ∈ GW := gw_s 21 rfl rfl
theorem w_854 : (Jvm.Cond.selects "CardHouseModel" ({ cls := "CardHouseModel", name := "highest", desc := "()I" } : Jvm.MethodName) ({ cls := "CardHouseModel", name := "highest", desc := "()I" } : Jvm.MethodName)) ∈ GW := gw_s 22 rfl rfl
theorem w_855 : (Jvm.Cond.selects "CardHouseModel" ({ cls := "CardHouseModel", name := "canPut", desc := "([III)Z" } : Jvm.MethodName) ({ cls := "CardHouseModel", name := "canPut", desc := "([III)Z" } : Jvm.MethodName)) ∈ GW := gw_s 23 rfl rfl
theorem w_856 : (Jvm.Cond.selects "CardHouseModel" ({ cls := "CardHouseModel", name := "note", desc := "()V" } : Jvm.MethodName) ({ cls := "CardHouseModel", name := "note", desc := "()V" } : Jvm.MethodName)) ∈ GW := gw_s 24 rfl rfl
theorem w_857 : (Jvm.Cond.selects "CardHouseModel" ({ cls := "CardHouseModel", name := "goPut", desc := "([III)I" } : Jvm.MethodName) ({ cls := "CardHouseModel", name := "goPut", desc := "([III)I" } : Jvm.MethodName)) ∈ GW := gw_s 25 rfl rfl
theorem w_858 : (Jvm.Cond.selects "CardHouseModel" ({ cls := "CardHouseModel", name := "goDraught", desc := "([III)I" } : Jvm.MethodName) ({ cls := "CardHouseModel", name := "goDraught", desc := "([III)I" } : Jvm.MethodName)) ∈ GW := gw_s 26 rfl rfl
theorem w_859 : (Jvm.Cond.selects "CardHouseModel" ({ cls := "CardHouseModel", name := "isTentOf", desc := "([III)Z" } : Jvm.MethodName) ({ cls := "CardHouseModel", name := "isTentOf", desc := "([III)Z" } : Jvm.MethodName)) ∈ GW := gw_s 27 rfl rfl
theorem w_860 : (Jvm.Cond.selects "CardHouseModel" ({ cls := "CardHouseModel", name := "firm", desc := "([II)I" } : Jvm.MethodName) ({ cls := "CardHouseModel", name := "firm", desc := "([II)I" } : Jvm.MethodName)) ∈ GW := gw_s 28 rfl rfl
theorem w_861 : (Jvm.Cond.selects "CardHouseModel" ({ cls := "CardHouseModel", name := "begin", desc := "()V" } : Jvm.MethodName) ({ cls := "CardHouseModel", name := "begin", desc := "()V" } : Jvm.MethodName)) ∈ GW := gw_s 29 rfl rfl
theorem w_862 : (Jvm.Cond.selects "CardHouseModel" ({ cls := "CardHouseModel", name := "does", desc := "(I)Z" } : Jvm.MethodName) ({ cls := "CardHouseModel", name := "does", desc := "(I)Z" } : Jvm.MethodName)) ∈ GW := gw_s 30 rfl rfl
theorem w_863 : (Jvm.Cond.selects "CardHouseModel" ({ cls := "CardHouseModel", name := "puts", desc := "(II)Z" } : Jvm.MethodName) ({ cls := "CardHouseModel", name := "puts", desc := "(II)Z" } : Jvm.MethodName)) ∈ GW := gw_s 31 rfl rfl
theorem w_864 : (Jvm.Cond.selects "CardHouseModel" ({ cls := "CardHouseModel", name := "takes", desc := "(I)Z" } : Jvm.MethodName) ({ cls := "CardHouseModel", name := "takes", desc := "(I)Z" } : Jvm.MethodName)) ∈ GW := gw_s 32 rfl rfl
theorem w_865 : (Jvm.Cond.selects "CardHouseModel" ({ cls := "CardHouseModel", name := "blows", desc := "(II)Z" } : Jvm.MethodName) ({ cls := "CardHouseModel", name := "blows", desc := "(II)Z" } : Jvm.MethodName)) ∈ GW := gw_s 33 rfl rfl
