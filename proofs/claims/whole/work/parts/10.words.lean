theorem gd_a {a b : List Cond} {w : Cond} {i : Nat} (h : a[i]? = some w) (hs : ∀ w ∈ a, w ∈ b) : w ∈ b := hs w (List.mem_of_getElem? h)
theorem in_t0 : ∀ w ∈ k2_sels lw_privs, w ∈ lw_tbl := fun w h => List.mem_append_left _ h
theorem in_t1 : ∀ w ∈ tables_1_1, w ∈ lw_tbl := fun w h => List.mem_append_right _ (List.mem_append_left _ h)
theorem in_t2 : ∀ w ∈ tables_1_2, w ∈ lw_tbl := fun w h => List.mem_append_right _ (List.mem_append_right _ (List.mem_append_left _ h))
theorem in_t3 : ∀ w ∈ tables_1_3, w ∈ lw_tbl := fun w h => List.mem_append_right _ (List.mem_append_right _ (List.mem_append_right _ (List.mem_append_left _ h)))
theorem in_t4 : ∀ w ∈ tables_1_4, w ∈ lw_tbl := fun w h => List.mem_append_right _ (List.mem_append_right _ (List.mem_append_right _ (List.mem_append_right _ (List.mem_append_left _ h))))
theorem in_t5 : ∀ w ∈ tables_1_5, w ∈ lw_tbl := fun w h => List.mem_append_right _ (List.mem_append_right _ (List.mem_append_right _ (List.mem_append_right _ (List.mem_append_right _ (List.mem_append_left _ h)))))
theorem in_t6 : ∀ w ∈ tables_1_6, w ∈ lw_tbl := fun w h => List.mem_append_right _ (List.mem_append_right _ (List.mem_append_right _ (List.mem_append_right _ (List.mem_append_right _ (List.mem_append_right _ (List.mem_append_left _ h))))))
theorem in_t7 : ∀ w ∈ tables_1_7, w ∈ lw_tbl := fun w h => List.mem_append_right _ (List.mem_append_right _ (List.mem_append_right _ (List.mem_append_right _ (List.mem_append_right _ (List.mem_append_right _ (List.mem_append_right _ (List.mem_append_left _ h)))))))
theorem in_t8 : ∀ w ∈ tables_1_8, w ∈ lw_tbl := fun w h => List.mem_append_right _ (List.mem_append_right _ (List.mem_append_right _ (List.mem_append_right _ (List.mem_append_right _ (List.mem_append_right _ (List.mem_append_right _ (List.mem_append_right _ (h))))))))
theorem gd_t {a : List Cond} {w : Cond} {i : Nat} (h : a[i]? = some w) (hs : ∀ w ∈ a, w ∈ lw_tbl) (hg : goodWord w = true) : w ∈ lw_gd := List.mem_filter.mpr ⟨hs w (List.mem_of_getElem? h), hg⟩
theorem wm_0 : Jvm.Cond.code ({ cls := "java/lang/Object", name := "<init>", desc := "()V" } : Jvm.MethodName) object_method_1_code (1 : Nat) (Option.none : Option Jvm.ClassFile.FieldType) ∈ lw_gd := gd_t (a := tables_1_1) (i := 34) rfl in_t1 rfl
theorem wm_1 : Jvm.Cond.code ({ cls := "java/lang/String", name := "coder", desc := "()B" } : Jvm.MethodName) prog_21_method_152_code (1 : Nat) (Option.some Jvm.ClassFile.FieldType.byte) ∈ lw_gd := gd_t (a := tables_1_3) (i := 167) rfl in_t3 rfl
theorem wm_2 : Jvm.Cond.initialized "java/lang/String" ∈ lw_gd := gd_t (a := tables_1_1) (i := 19) rfl in_t1 rfl
theorem wm_3 : Jvm.Cond.code ({ cls := "java/lang/String", name := "isLatin1", desc := "()Z" } : Jvm.MethodName) prog_21_method_154_code (1 : Nat) (Option.some Jvm.ClassFile.FieldType.boolean) ∈ lw_gd := gd_t (a := tables_1_3) (i := 177) rfl in_t3 rfl
theorem wm_4 : Jvm.Cond.code ({ cls := "java/lang/StringLatin1", name := "charAt", desc := "([BI)C" } : Jvm.MethodName) prog_22_method_2_code (2 : Nat) (Option.some Jvm.ClassFile.FieldType.char) ∈ lw_gd := gd_t (a := tables_1_3) (i := 180) rfl in_t3 rfl
theorem wm_5 : Jvm.Cond.initialized "java/lang/StringLatin1" ∈ lw_gd := gd_t (a := tables_1_1) (i := 20) rfl in_t1 rfl
theorem wm_6 : Jvm.Cond.code ({ cls := "java/lang/String", name := "length", desc := "()I" } : Jvm.MethodName) prog_21_method_54_code (1 : Nat) (Option.some Jvm.ClassFile.FieldType.int) ∈ lw_gd := gd_t (a := tables_1_3) (i := 163) rfl in_t3 rfl
theorem wm_7 : Jvm.Cond.code ({ cls := "java/lang/String", name := "charAt", desc := "(I)C" } : Jvm.MethodName) prog_21_method_56_code (2 : Nat) (Option.some Jvm.ClassFile.FieldType.char) ∈ lw_gd := gd_t (a := tables_1_3) (i := 173) rfl in_t3 rfl
theorem wm_8 : Jvm.Cond.code ({ cls := "java/lang/String", name := "checkIndex", desc := "(II)V" } : Jvm.MethodName) prog_21_method_155_code (2 : Nat) (Option.none : Option Jvm.ClassFile.FieldType) ∈ lw_gd := gd_t (a := tables_1_3) (i := 183) rfl in_t3 rfl
theorem wm_9 : Jvm.Cond.code ({ cls := "jdk/internal/util/Preconditions", name := "checkIndex", desc := "(IILjava/util/function/BiFunction;)I" } : Jvm.MethodName) prog_28_method_11_code (3 : Nat) (Option.some Jvm.ClassFile.FieldType.int) ∈ lw_gd := gd_t (a := tables_1_3) (i := 188) rfl in_t3 rfl
theorem wm_10 : Jvm.Cond.initialized "jdk/internal/util/Preconditions" ∈ lw_gd := gd_t (a := tables_1_1) (i := 21) rfl in_t1 rfl
theorem wm_11 : Jvm.Cond.fieldLink "java/lang/String" (38 : Nat) "java/lang/String" "COMPACT_STRINGS" "Z" ∈ lw_gd := gd_t (a := tables_1_3) (i := 168) rfl in_t3 rfl
theorem wm_12 : Jvm.Cond.fieldLink "java/lang/String" (15 : Nat) "java/lang/String" "coder" "B" ∈ lw_gd := gd_t (a := tables_1_8) (i := 218) rfl in_t8 rfl
theorem wm_13 : Jvm.Cond.fieldLink "java/lang/String" (9 : Nat) "java/lang/String" "value" "[B" ∈ lw_gd := gd_t (a := tables_1_8) (i := 217) rfl in_t8 rfl
theorem wm_14 : Jvm.Cond.methodLink "java/lang/String" (335 : Nat) ({ cls := "java/lang/String", name := "coder", desc := "()B" } : Jvm.MethodName) ∈ lw_gd := gd_t (a := tables_1_3) (i := 164) rfl in_t3 rfl
theorem wm_15 : Jvm.Cond.instanceMethod ({ cls := "java/lang/String", name := "coder", desc := "()B" } : Jvm.MethodName) ∈ lw_gd := gd_t (a := tables_1_3) (i := 165) rfl in_t3 rfl
theorem wm_16 : Jvm.Cond.selects "java/lang/String" ({ cls := "java/lang/String", name := "coder", desc := "()B" } : Jvm.MethodName) ({ cls := "java/lang/String", name := "coder", desc := "()B" } : Jvm.MethodName) ∈ lw_gd := gd_t (a := tables_1_3) (i := 166) rfl in_t3 rfl
theorem wm_17 : Jvm.Cond.fieldLink "java/lang/String" (1053 : Nat) "jdk/internal/util/Preconditions" "SIOOBE_FORMATTER" "Ljava/util/function/BiFunction;" ∈ lw_gd := gd_t (a := tables_1_3) (i := 184) rfl in_t3 rfl
theorem wm_18 : Jvm.Cond.methodLink "java/lang/String" (1059 : Nat) ({ cls := "jdk/internal/util/Preconditions", name := "checkIndex", desc := "(IILjava/util/function/BiFunction;)I" } : Jvm.MethodName) ∈ lw_gd := gd_t (a := tables_1_3) (i := 186) rfl in_t3 rfl
theorem wm_19 : Jvm.Cond.static ({ cls := "jdk/internal/util/Preconditions", name := "checkIndex", desc := "(IILjava/util/function/BiFunction;)I" } : Jvm.MethodName) ∈ lw_gd := gd_t (a := tables_1_3) (i := 187) rfl in_t3 rfl
theorem wm_20 : Jvm.Cond.methodLink "java/lang/StringLatin1" (9 : Nat) ({ cls := "java/lang/String", name := "checkIndex", desc := "(II)V" } : Jvm.MethodName) ∈ lw_gd := gd_t (a := tables_1_3) (i := 181) rfl in_t3 rfl
theorem wm_21 : Jvm.Cond.static ({ cls := "java/lang/String", name := "checkIndex", desc := "(II)V" } : Jvm.MethodName) ∈ lw_gd := gd_t (a := tables_1_3) (i := 182) rfl in_t3 rfl
theorem wm_22 : Jvm.Cond.methodLink "java/lang/String" (492 : Nat) ({ cls := "java/lang/String", name := "isLatin1", desc := "()Z" } : Jvm.MethodName) ∈ lw_gd := gd_t (a := tables_1_3) (i := 174) rfl in_t3 rfl
theorem wm_23 : Jvm.Cond.instanceMethod ({ cls := "java/lang/String", name := "isLatin1", desc := "()Z" } : Jvm.MethodName) ∈ lw_gd := gd_t (a := tables_1_3) (i := 175) rfl in_t3 rfl
theorem wm_24 : Jvm.Cond.selects "java/lang/String" ({ cls := "java/lang/String", name := "isLatin1", desc := "()Z" } : Jvm.MethodName) ({ cls := "java/lang/String", name := "isLatin1", desc := "()Z" } : Jvm.MethodName) ∈ lw_gd := gd_t (a := tables_1_3) (i := 176) rfl in_t3 rfl
theorem wm_25 : Jvm.Cond.methodLink "java/lang/String" (495 : Nat) ({ cls := "java/lang/StringLatin1", name := "charAt", desc := "([BI)C" } : Jvm.MethodName) ∈ lw_gd := gd_t (a := tables_1_3) (i := 178) rfl in_t3 rfl
theorem wm_26 : Jvm.Cond.static ({ cls := "java/lang/StringLatin1", name := "charAt", desc := "([BI)C" } : Jvm.MethodName) ∈ lw_gd := gd_t (a := tables_1_3) (i := 179) rfl in_t3 rfl
theorem wm_27 : Jvm.Cond.code ({ cls := "LitmusHouse$Code", name := "actionsOn", desc := "(II)I" } : Jvm.MethodName) prog_2_method_6_code (6 : Nat) (Option.some Jvm.ClassFile.FieldType.int) ∈ lw_gd := gd_t (a := tables_1_5) (i := 30) rfl in_t5 rfl
theorem wm_28 : Jvm.Cond.initialized "LitmusHouse$Code" ∈ lw_gd := gd_t (a := tables_1_1) (i := 7) rfl in_t1 rfl
theorem wm_29 : Jvm.Cond.fieldLink "LitmusHouse$Code" (24 : Nat) "LitmusHouse$Code" "object" "[I" ∈ lw_gd := gd_t (a := tables_1_1) (i := 171) rfl in_t1 rfl
theorem wm_30 : Jvm.Cond.fieldLink "LitmusHouse$Code" (36 : Nat) "LitmusHouse$Code" "actionAt" "[I" ∈ lw_gd := gd_t (a := tables_1_1) (i := 187) rfl in_t1 rfl
theorem wm_31 : Jvm.Cond.fieldLink "LitmusHouse$Code" (9 : Nat) "LitmusHouse$Code" "op" "[I" ∈ lw_gd := gd_t (a := tables_1_1) (i := 152) rfl in_t1 rfl
theorem wm_32 : Jvm.Cond.fieldLink "LitmusHouse$Code" (49 : Nat) "LitmusHouse$Code" "actions" "I" ∈ lw_gd := gd_t (a := tables_1_1) (i := 206) rfl in_t1 rfl
theorem wm_33 : Jvm.Cond.code ({ cls := "LitmusHouse$Code", name := "add", desc := "(IIIII)I" } : Jvm.MethodName) prog_2_method_2_code (7 : Nat) (Option.some Jvm.ClassFile.FieldType.int) ∈ lw_gd := gd_t (a := tables_1_4) (i := 67) rfl in_t4 rfl
theorem wm_34 : Jvm.Cond.fieldLink "LitmusHouse$Code" (42 : Nat) "LitmusHouse$Code" "size" "I" ∈ lw_gd := gd_t (a := tables_1_1) (i := 195) rfl in_t1 rfl
theorem wm_35 : Jvm.Cond.fieldLink "LitmusHouse$Code" (15 : Nat) "LitmusHouse$Code" "local" "[I" ∈ lw_gd := gd_t (a := tables_1_1) (i := 158) rfl in_t1 rfl
theorem wm_36 : Jvm.Cond.fieldLink "LitmusHouse$Code" (18 : Nat) "LitmusHouse$Code" "base" "[I" ∈ lw_gd := gd_t (a := tables_1_1) (i := 163) rfl in_t1 rfl
theorem wm_37 : Jvm.Cond.fieldLink "LitmusHouse$Code" (21 : Nat) "LitmusHouse$Code" "digit" "[I" ∈ lw_gd := gd_t (a := tables_1_1) (i := 167) rfl in_t1 rfl
theorem wm_38 : Jvm.Cond.fieldLink "LitmusHouse$Code" (30 : Nat) "LitmusHouse$Code" "number" "[I" ∈ lw_gd := gd_t (a := tables_1_1) (i := 180) rfl in_t1 rfl
theorem wm_39 : Jvm.Cond.methodLink "LitmusHouse$Code" (67 : Nat) ({ cls := "java/lang/Math", name := "min", desc := "(II)I" } : Jvm.MethodName) ∈ lw_gd := gd_t (a := tables_1_4) (i := 68) rfl in_t4 rfl
theorem wm_40 : Jvm.Cond.static ({ cls := "java/lang/Math", name := "min", desc := "(II)I" } : Jvm.MethodName) ∈ lw_gd := gd_t (a := tables_1_2) (i := 210) rfl in_t2 rfl
theorem wm_41 : Jvm.Cond.initialized "java/lang/Math" ∈ lw_gd := gd_t (a := tables_1_1) (i := 18) rfl in_t1 rfl
theorem wm_42 : Jvm.Cond.code ({ cls := "java/lang/Math", name := "min", desc := "(II)I" } : Jvm.MethodName) prog_19_method_69_code (2 : Nat) (Option.some Jvm.ClassFile.FieldType.int) ∈ lw_gd := gd_t (a := tables_1_2) (i := 211) rfl in_t2 rfl
theorem wm_43 : Jvm.Cond.code ({ cls := "LitmusHouse$Code", name := "addAction", desc := "(IIIIII)V" } : Jvm.MethodName) prog_2_method_3_code (8 : Nat) (Option.none : Option Jvm.ClassFile.FieldType) ∈ lw_gd := gd_t (a := tables_1_4) (i := 63) rfl in_t4 rfl
theorem wm_44 : Jvm.Cond.fieldLink "LitmusHouse$Code" (39 : Nat) "LitmusHouse$Code" "actionThread" "[I" ∈ lw_gd := gd_t (a := tables_1_1) (i := 191) rfl in_t1 rfl
theorem wm_45 : Jvm.Cond.methodLink "LitmusHouse$Code" (73 : Nat) ({ cls := "LitmusHouse$Code", name := "add", desc := "(IIIII)I" } : Jvm.MethodName) ∈ lw_gd := gd_t (a := tables_1_4) (i := 64) rfl in_t4 rfl
theorem wm_46 : Jvm.Cond.instanceMethod ({ cls := "LitmusHouse$Code", name := "add", desc := "(IIIII)I" } : Jvm.MethodName) ∈ lw_gd := gd_t (a := tables_1_4) (i := 65) rfl in_t4 rfl
theorem wm_47 : Jvm.Cond.selects "LitmusHouse$Code" ({ cls := "LitmusHouse$Code", name := "add", desc := "(IIIII)I" } : Jvm.MethodName) ({ cls := "LitmusHouse$Code", name := "add", desc := "(IIIII)I" } : Jvm.MethodName) ∈ lw_gd := gd_t (a := tables_1_4) (i := 66) rfl in_t4 rfl
theorem wm_48 : Jvm.Cond.code ({ cls := "LitmusHouse$Code", name := "<init>", desc := "()V" } : Jvm.MethodName) prog_2_method_1_code (1 : Nat) (Option.none : Option Jvm.ClassFile.FieldType) ∈ lw_gd := gd_t (a := tables_1_1) (i := 150) rfl in_t1 rfl
theorem wm_49 : Jvm.Cond.methodLink "LitmusHouse$Code" (3 : Nat) ({ cls := "java/lang/Object", name := "<init>", desc := "()V" } : Jvm.MethodName) ∈ lw_gd := gd_t (a := tables_1_1) (i := 151) rfl in_t1 rfl
theorem wm_50 : Jvm.Cond.instanceMethod ({ cls := "java/lang/Object", name := "<init>", desc := "()V" } : Jvm.MethodName) ∈ lw_gd := gd_t (a := tables_1_1) (i := 33) rfl in_t1 rfl
theorem wm_51 : Jvm.Cond.arrayClass Jvm.ClassFile.FieldType.int ∈ lw_gd := gd_t (a := tables_1_1) (i := 80) rfl in_t1 rfl
theorem wm_52 : Jvm.Cond.fieldLink "LitmusHouse$Code" (27 : Nat) "LitmusHouse$Code" "jump" "[I" ∈ lw_gd := gd_t (a := tables_1_1) (i := 177) rfl in_t1 rfl
theorem wm_53 : Jvm.Cond.fieldLink "LitmusHouse$Code" (33 : Nat) "LitmusHouse$Code" "start" "[I" ∈ lw_gd := gd_t (a := tables_1_1) (i := 182) rfl in_t1 rfl
theorem wm_54 : Jvm.Cond.fieldLink "LitmusHouse$Code" (46 : Nat) "LitmusHouse$Code" "threads" "I" ∈ lw_gd := gd_t (a := tables_1_1) (i := 199) rfl in_t1 rfl
theorem wm_55 : Jvm.Cond.fieldLink "LitmusHouse$Code" (52 : Nat) "LitmusHouse$Code" "statements" "I" ∈ lw_gd := gd_t (a := tables_1_1) (i := 210) rfl in_t1 rfl
theorem wm_56 : Jvm.Cond.fieldLink "LitmusHouse$Code" (55 : Nat) "LitmusHouse$Code" "localBits" "I" ∈ lw_gd := gd_t (a := tables_1_1) (i := 213) rfl in_t1 rfl
theorem wm_57 : Jvm.Cond.fieldLink "LitmusHouse$Code" (58 : Nat) "LitmusHouse$Code" "monitorBits" "I" ∈ lw_gd := gd_t (a := tables_1_1) (i := 216) rfl in_t1 rfl
theorem wm_58 : Jvm.Cond.fieldLink "LitmusHouse$Code" (61 : Nat) "LitmusHouse$Code" "maker" "I" ∈ lw_gd := gd_t (a := tables_1_1) (i := 219) rfl in_t1 rfl
theorem wm_59 : Jvm.Cond.fieldLink "LitmusHouse$Code" (64 : Nat) "LitmusHouse$Code" "doneAction" "I" ∈ lw_gd := gd_t (a := tables_1_1) (i := 223) rfl in_t1 rfl
theorem wm_60 : Jvm.Cond.code ({ cls := "LitmusHouse$Code", name := "isCellAction", desc := "(I)Z" } : Jvm.MethodName) prog_2_method_4_code (3 : Nat) (Option.some Jvm.ClassFile.FieldType.boolean) ∈ lw_gd := gd_t (a := tables_1_5) (i := 232) rfl in_t5 rfl
theorem wm_61 : Jvm.Cond.code ({ cls := "LitmusHouse$Code", name := "touchedCells", desc := "()I" } : Jvm.MethodName) prog_2_method_5_code (4 : Nat) (Option.some Jvm.ClassFile.FieldType.int) ∈ lw_gd := gd_t (a := tables_1_6) (i := 84) rfl in_t6 rfl
theorem wm_62 : Jvm.Cond.methodLink "LitmusHouse$Code" (77 : Nat) ({ cls := "LitmusHouse$Code", name := "isCellAction", desc := "(I)Z" } : Jvm.MethodName) ∈ lw_gd := gd_t (a := tables_1_6) (i := 85) rfl in_t6 rfl
theorem wm_63 : Jvm.Cond.instanceMethod ({ cls := "LitmusHouse$Code", name := "isCellAction", desc := "(I)Z" } : Jvm.MethodName) ∈ lw_gd := gd_t (a := tables_1_5) (i := 230) rfl in_t5 rfl
theorem wm_64 : Jvm.Cond.selects "LitmusHouse$Code" ({ cls := "LitmusHouse$Code", name := "isCellAction", desc := "(I)Z" } : Jvm.MethodName) ({ cls := "LitmusHouse$Code", name := "isCellAction", desc := "(I)Z" } : Jvm.MethodName) ∈ lw_gd := gd_t (a := tables_1_5) (i := 231) rfl in_t5 rfl
theorem wm_obj : Cond.code objectInit ⟨#[0xb1]⟩ 1 none ∈ lw_gd := wm_0
