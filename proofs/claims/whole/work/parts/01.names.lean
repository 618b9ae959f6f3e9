/-! NAMES (by program, wip/tools/gen_names.py, out of the claim's own Statement): classes and their fields, methods with their rooms, the words of the tables, what each pool entry is -/
def TT0 : u_T := fun k => match k with
  | 0 => ("ProcessHeaps", "memory", "LProcessHeaps$Memory;", true)
  | 1 => ("ProcessHeaps", "collector", "LProcessHeaps$Collector;", true)
  | 2 => ("ProcessHeaps", "limits", "LProcessHeaps$Limits;", true)
  | 3 => ("ProcessHeaps", "processes", "[LProcessHeaps$HeapProcess;", true)
  | 4 => ("ProcessHeaps", "heads", "[LProcessHeaps$HeapObject;", true)
  | 5 => ("ProcessHeaps", "made", "I", false)
  | _ => ("ProcessHeaps", "nextShared", "I", false)
def tt0 : Nat → FieldType := fun k => match k with
  | 0 => .object "ProcessHeaps$Memory"
  | 1 => .object "ProcessHeaps$Collector"
  | 2 => .object "ProcessHeaps$Limits"
  | 3 => .array (.object "ProcessHeaps$HeapProcess")
  | 4 => .array (.object "ProcessHeaps$HeapObject")
  | 5 => .int
  | _ => .int
def TT1 : u_T := fun k => match k with
  | 0 => ("ProcessHeaps$Memory", "pages", "Ljava/util/ArrayList;", true)
  | _ => ("ProcessHeaps$Memory", "objects", "Ljava/util/ArrayList;", true)
def tt1 : Nat → FieldType := fun k => match k with
  | 0 => .object "java/util/ArrayList"
  | _ => .object "java/util/ArrayList"
def TT2 : u_T := fun k => match k with
  | 0 => ("java/util/ArrayList", "elementData", "[Ljava/lang/Object;", false)
  | 1 => ("java/util/ArrayList", "size", "I", false)
  | _ => ("java/util/AbstractList", "modCount", "I", false)
def tt2 : Nat → FieldType := fun k => match k with
  | 0 => .array (.object "java/lang/Object")
  | 1 => .int
  | _ => .int
def TT3 : u_T := fun k => match k with
  | 0 => ("ProcessHeaps$Collector", "reached", "[LProcessHeaps$HeapObject;", true)
  | _ => ("ProcessHeaps$Collector", "count", "I", false)
def tt3 : Nat → FieldType := fun k => match k with
  | 0 => .array (.object "ProcessHeaps$HeapObject")
  | _ => .int
def TT4 : u_T := fun k => match k with
  | 0 => ("ProcessHeaps$Limits", "used", "[I", true)
  | 1 => ("ProcessHeaps$Limits", "spare", "[I", true)
  | _ => ("ProcessHeaps$Limits", "exists", "[Z", true)
def tt4 : Nat → FieldType := fun k => match k with
  | 0 => .array .int
  | 1 => .array .int
  | _ => .array .boolean
def TT5 : u_T := fun k => match k with
  | 0 => ("ProcessHeaps$HeapProcess", "number", "I", true)
  | 1 => ("ProcessHeaps$HeapProcess", "parent", "I", true)
  | 2 => ("ProcessHeaps$HeapProcess", "limit", "I", true)
  | 3 => ("ProcessHeaps$HeapProcess", "hard", "Z", true)
  | 4 => ("ProcessHeaps$HeapProcess", "registers", "[LProcessHeaps$HeapObject;", true)
  | 5 => ("ProcessHeaps$HeapProcess", "state", "I", false)
  | 6 => ("ProcessHeaps$HeapProcess", "building", "I", false)
  | _ => ("ProcessHeaps$HeapProcess", "charges", "I", false)
def tt5 : Nat → FieldType := fun k => match k with
  | 0 => .int
  | 1 => .int
  | 2 => .int
  | 3 => .boolean
  | 4 => .array (.object "ProcessHeaps$HeapObject")
  | 5 => .int
  | 6 => .int
  | _ => .int
def TT6 : u_T := fun k => match k with
  | 0 => ("ProcessHeaps$Page", "heap", "I", false)
  | 1 => ("ProcessHeaps$Page", "payer", "I", false)
  | _ => ("ProcessHeaps$Page", "freeCells", "I", false)
def tt6 : Nat → FieldType := fun k => match k with
  | 0 => .int
  | 1 => .int
  | _ => .int
def TT7 : u_T := fun k => match k with
  | 0 => ("ProcessHeaps$HeapObject", "page", "LProcessHeaps$Page;", true)
  | 1 => ("ProcessHeaps$HeapObject", "size", "I", true)
  | 2 => ("ProcessHeaps$HeapObject", "tag", "I", true)
  | 3 => ("ProcessHeaps$HeapObject", "fields", "[LProcessHeaps$HeapObject;", true)
  | 4 => ("ProcessHeaps$HeapObject", "reached", "Z", false)
  | _ => ("ProcessHeaps$HeapObject", "items", "I", false)
def tt7 : Nat → FieldType := fun k => match k with
  | 0 => .object "ProcessHeaps$Page"
  | 1 => .int
  | 2 => .int
  | 3 => .array (.object "ProcessHeaps$HeapObject")
  | 4 => .boolean
  | _ => .int
def TT8 : u_T := fun k => match k with
  | 0 => ("ProcessHeapsModel", "phase", "[I", true)
  | 1 => ("ProcessHeapsModel", "parent", "[I", true)
  | 2 => ("ProcessHeapsModel", "limit", "[I", true)
  | 3 => ("ProcessHeapsModel", "hard", "[Z", true)
  | 4 => ("ProcessHeapsModel", "made", "I", false)
  | 5 => ("ProcessHeapsModel", "reg", "[I", true)
  | 6 => ("ProcessHeapsModel", "home", "[I", true)
  | 7 => ("ProcessHeapsModel", "size", "[I", true)
  | 8 => ("ProcessHeapsModel", "label", "[I", true)
  | 9 => ("ProcessHeapsModel", "page", "[I", true)
  | 10 => ("ProcessHeapsModel", "field", "[I", true)
  | 11 => ("ProcessHeapsModel", "owner", "[I", true)
  | 12 => ("ProcessHeapsModel", "payer", "[I", true)
  | 13 => ("ProcessHeapsModel", "order", "[I", true)
  | 14 => ("ProcessHeapsModel", "latest", "I", false)
  | 15 => ("ProcessHeapsModel", "stage", "[I", true)
  | 16 => ("ProcessHeapsModel", "builder", "[I", true)
  | 17 => ("ProcessHeapsModel", "first", "[I", true)
  | 18 => ("ProcessHeapsModel", "begun", "I", false)
  | 19 => ("ProcessHeapsModel", "sharing", "[Z", true)
  | 20 => ("ProcessHeapsModel", "paying", "[Z", true)
  | 21 => ("ProcessHeapsModel", "item", "[Z", true)
  | 22 => ("ProcessHeapsModel", "used", "[I", true)
  | 23 => ("ProcessHeapsModel", "there", "[Z", true)
  | _ => ("ProcessHeapsModel", "mark", "[Z", true)
def tt8 : Nat → FieldType := fun k => match k with
  | 0 => .array .int
  | 1 => .array .int
  | 2 => .array .int
  | 3 => .array .boolean
  | 4 => .int
  | 5 => .array .int
  | 6 => .array .int
  | 7 => .array .int
  | 8 => .array .int
  | 9 => .array .int
  | 10 => .array .int
  | 11 => .array .int
  | 12 => .array .int
  | 13 => .array .int
  | 14 => .int
  | 15 => .array .int
  | 16 => .array .int
  | 17 => .array .int
  | 18 => .int
  | 19 => .array .boolean
  | 20 => .array .boolean
  | 21 => .array .boolean
  | 22 => .array .int
  | 23 => .array .boolean
  | _ => .array .boolean
abbrev vwCl : List vw_C := [("ProcessHeaps", TT0, 7), ("ProcessHeaps$Memory", TT1, 2), ("java/util/ArrayList", TT2, 3), ("ProcessHeaps$Collector", TT3, 2), ("ProcessHeaps$Limits", TT4, 3), ("ProcessHeaps$HeapProcess", TT5, 8), ("ProcessHeaps$Page", TT6, 3), ("ProcessHeaps$HeapObject", TT7, 6), ("ProcessHeapsModel", TT8, 25)]
def yy_PH_init : MethodName := ⟨"ProcessHeaps", "<init>", "(I)V"⟩
abbrev Y_PH_init : ByteArray × String × Nat × Option FieldType × Bool × Room := (prog_1_method_1_code, "ProcessHeaps", 3, none, true, { frames := 5, cells := 14, slots := 132, locals := 100 })
def yy_Oj_init : MethodName := ⟨"java/lang/Object", "<init>", "()V"⟩
abbrev Y_Oj_init : ByteArray × String × Nat × Option FieldType × Bool × Room := (object_method_1_code, "java/lang/Object", 1, none, true, { frames := 0, cells := 0, slots := 0, locals := 0 })
def yy_Me_init : MethodName := ⟨"ProcessHeaps$Memory", "<init>", "()V"⟩
abbrev Y_Me_init : ByteArray × String × Nat × Option FieldType × Bool × Room := (prog_6_method_1_code, "ProcessHeaps$Memory", 1, none, true, { frames := 4, cells := 2, slots := 6, locals := 80 })
def yy_AL_init : MethodName := ⟨"java/util/ArrayList", "<init>", "()V"⟩
abbrev Y_AL_init : ByteArray × String × Nat × Option FieldType × Bool × Room := (prog_17_method_2_code, "java/util/ArrayList", 1, none, true, { frames := 3, cells := 0, slots := 0, locals := 60 })
def yy_Ab_init : MethodName := ⟨"java/util/AbstractList", "<init>", "()V"⟩
abbrev Y_Ab_init : ByteArray × String × Nat × Option FieldType × Bool × Room := (prog_16_method_1_code, "java/util/AbstractList", 1, none, true, { frames := 2, cells := 0, slots := 0, locals := 40 })
def yy_Ac_init : MethodName := ⟨"java/util/AbstractCollection", "<init>", "()V"⟩
abbrev Y_Ac_init : ByteArray × String × Nat × Option FieldType × Bool × Room := (prog_15_method_1_code, "java/util/AbstractCollection", 1, none, true, { frames := 1, cells := 0, slots := 0, locals := 20 })
def yy_Co_init : MethodName := ⟨"ProcessHeaps$Collector", "<init>", "()V"⟩
abbrev Y_Co_init : ByteArray × String × Nat × Option FieldType × Bool × Room := (prog_2_method_1_code, "ProcessHeaps$Collector", 1, none, true, { frames := 1, cells := 1, slots := 60, locals := 20 })
def yy_Li_init : MethodName := ⟨"ProcessHeaps$Limits", "<init>", "()V"⟩
abbrev Y_Li_init : ByteArray × String × Nat × Option FieldType × Bool × Room := (prog_5_method_1_code, "ProcessHeaps$Limits", 1, none, true, { frames := 1, cells := 3, slots := 24, locals := 20 })
def yy_Ma_min : MethodName := ⟨"java/lang/Math", "min", "(II)I"⟩
abbrev Y_Ma_min : ByteArray × String × Nat × Option FieldType × Bool × Room := (prog_13_method_69_code, "java/lang/Math", 2, (some .int), false, { frames := 0, cells := 0, slots := 0, locals := 0 })
def yy_Ma_max : MethodName := ⟨"java/lang/Math", "max", "(II)I"⟩
abbrev Y_Ma_max : ByteArray × String × Nat × Option FieldType × Bool × Room := (prog_13_method_65_code, "java/lang/Math", 2, (some .int), false, { frames := 0, cells := 0, slots := 0, locals := 0 })
def yy_Pr_init : MethodName := ⟨"ProcessHeaps$HeapProcess", "<init>", "(IIIZ)V"⟩
abbrev Y_Pr_init : ByteArray × String × Nat × Option FieldType × Bool × Room := (prog_4_method_1_code, "ProcessHeaps$HeapProcess", 5, none, true, { frames := 1, cells := 1, slots := 4, locals := 20 })
def yy_PH_spawn : MethodName := ⟨"ProcessHeaps", "spawn", "(IIZ)I"⟩
abbrev Y_PH_spawn : ByteArray × String × Nat × Option FieldType × Bool × Room := (prog_1_method_2_code, "ProcessHeaps", 5, (some .int), false, { frames := 7, cells := 2, slots := 12, locals := 156 })
def yy_PH_livingProcess : MethodName := ⟨"ProcessHeaps", "livingProcess", "(I)LProcessHeaps$HeapProcess;"⟩
abbrev Y_PH_livingProcess : ByteArray × String × Nat × Option FieldType × Bool × Room := (prog_1_method_27_code, "ProcessHeaps", 2, (some (.object "ProcessHeaps$HeapProcess")), false, { frames := 1, cells := 0, slots := 0, locals := 21 })
def yy_PH_isMade : MethodName := ⟨"ProcessHeaps", "isMade", "(I)Z"⟩
abbrev Y_PH_isMade : ByteArray × String × Nat × Option FieldType × Bool × Room := (prog_1_method_26_code, "ProcessHeaps", 2, (some .boolean), false, { frames := 0, cells := 0, slots := 0, locals := 0 })
def yy_Pr_isLiving : MethodName := ⟨"ProcessHeaps$HeapProcess", "isLiving", "()Z"⟩
abbrev Y_Pr_isLiving : ByteArray × String × Nat × Option FieldType × Bool × Room := (prog_4_method_2_code, "ProcessHeaps$HeapProcess", 1, (some .boolean), false, { frames := 0, cells := 0, slots := 0, locals := 0 })
def yy_PH_canPay : MethodName := ⟨"ProcessHeaps", "canPay", "(II)Z"⟩
abbrev Y_PH_canPay : ByteArray × String × Nat × Option FieldType × Bool × Room := (prog_1_method_28_code, "ProcessHeaps", 3, (some .boolean), false, { frames := 6, cells := 0, slots := 0, locals := 134 })
def yy_Li_reckon : MethodName := ⟨"ProcessHeaps$Limits", "reckon", "([LProcessHeaps$HeapProcess;LProcessHeaps$Memory;)V"⟩
abbrev Y_Li_reckon : ByteArray × String × Nat × Option FieldType × Bool × Room := (prog_5_method_2_code, "ProcessHeaps$Limits", 3, none, false, { frames := 5, cells := 0, slots := 0, locals := 112 })
def yy_Li_reckonPayments : MethodName := ⟨"ProcessHeaps$Limits", "reckonPayments", "([LProcessHeaps$HeapProcess;LProcessHeaps$Memory;)V"⟩
abbrev Y_Li_reckonPayments : ByteArray × String × Nat × Option FieldType × Bool × Room := (prog_5_method_3_code, "ProcessHeaps$Limits", 5, none, false, { frames := 4, cells := 0, slots := 0, locals := 88 })
def yy_Me_countPaidPages : MethodName := ⟨"ProcessHeaps$Memory", "countPaidPages", "(LProcessHeaps$HeapProcess;)I"⟩
abbrev Y_Me_countPaidPages : ByteArray × String × Nat × Option FieldType × Bool × Room := (prog_6_method_3_code, "ProcessHeaps$Memory", 5, (some .int), false, { frames := 3, cells := 0, slots := 0, locals := 64 })
def yy_AL_size : MethodName := ⟨"java/util/ArrayList", "size", "()I"⟩
abbrev Y_AL_size : ByteArray × String × Nat × Option FieldType × Bool × Room := (prog_17_method_8_code, "java/util/ArrayList", 1, (some .int), false, { frames := 0, cells := 0, slots := 0, locals := 0 })
def yy_AL_get : MethodName := ⟨"java/util/ArrayList", "get", "(I)Ljava/lang/Object;"⟩
abbrev Y_AL_get : ByteArray × String × Nat × Option FieldType × Bool × Room := (prog_17_method_20_code, "java/util/ArrayList", 2, (some (.object "java/lang/Object")), false, { frames := 2, cells := 0, slots := 0, locals := 43 })
def yy_Os_checkIndex : MethodName := ⟨"java/util/Objects", "checkIndex", "(II)I"⟩
abbrev Y_Os_checkIndex : ByteArray × String × Nat × Option FieldType × Bool × Room := (prog_21_method_17_code, "java/util/Objects", 2, (some .int), false, { frames := 1, cells := 0, slots := 0, locals := 22 })
def yy_Pc_checkIndex : MethodName := ⟨"jdk/internal/util/Preconditions", "checkIndex", "(IILjava/util/function/BiFunction;)I"⟩
abbrev Y_Pc_checkIndex : ByteArray × String × Nat × Option FieldType × Bool × Room := (prog_25_method_11_code, "jdk/internal/util/Preconditions", 3, (some .int), false, { frames := 0, cells := 0, slots := 0, locals := 0 })
def yy_AL_elementData : MethodName := ⟨"java/util/ArrayList", "elementData", "(I)Ljava/lang/Object;"⟩
abbrev Y_AL_elementData : ByteArray × String × Nat × Option FieldType × Bool × Room := (prog_17_method_18_code, "java/util/ArrayList", 2, (some (.object "java/lang/Object")), false, { frames := 0, cells := 0, slots := 0, locals := 0 })
def yy_Pr_isCharged : MethodName := ⟨"ProcessHeaps$HeapProcess", "isCharged", "(I)Z"⟩
abbrev Y_Pr_isCharged : ByteArray × String × Nat × Option FieldType × Bool × Room := (prog_4_method_4_code, "ProcessHeaps$HeapProcess", 2, (some .boolean), false, { frames := 0, cells := 0, slots := 0, locals := 0 })
def yy_Li_addChildren : MethodName := ⟨"ProcessHeaps$Limits", "addChildren", "([LProcessHeaps$HeapProcess;)V"⟩
abbrev Y_Li_addChildren : ByteArray × String × Nat × Option FieldType × Bool × Room := (prog_5_method_4_code, "ProcessHeaps$Limits", 4, none, false, { frames := 0, cells := 0, slots := 0, locals := 0 })
def yy_Li_reckonSpare : MethodName := ⟨"ProcessHeaps$Limits", "reckonSpare", "([LProcessHeaps$HeapProcess;)V"⟩
abbrev Y_Li_reckonSpare : ByteArray × String × Nat × Option FieldType × Bool × Room := (prog_5_method_5_code, "ProcessHeaps$Limits", 4, none, false, { frames := 1, cells := 0, slots := 0, locals := 21 })
def yy_PH_kill : MethodName := ⟨"ProcessHeaps", "kill", "(I)Z"⟩
abbrev Y_PH_kill : ByteArray × String × Nat × Option FieldType × Bool × Room := (prog_1_method_3_code, "ProcessHeaps", 3, (some .boolean), false, { frames := 9, cells := 0, slots := 0, locals := 216 })
def yy_Pr_isInKernelMode : MethodName := ⟨"ProcessHeaps$HeapProcess", "isInKernelMode", "()Z"⟩
abbrev Y_Pr_isInKernelMode : ByteArray × String × Nat × Option FieldType × Bool × Room := (prog_4_method_3_code, "ProcessHeaps$HeapProcess", 1, (some .boolean), false, { frames := 0, cells := 0, slots := 0, locals := 0 })
def yy_PH_die : MethodName := ⟨"ProcessHeaps", "die", "(LProcessHeaps$HeapProcess;)V"⟩
abbrev Y_PH_die : ByteArray × String × Nat × Option FieldType × Bool × Room := (prog_1_method_34_code, "ProcessHeaps", 3, none, false, { frames := 8, cells := 0, slots := 0, locals := 194 })
def yy_PH_dropUnusedCharges : MethodName := ⟨"ProcessHeaps", "dropUnusedCharges", "(LProcessHeaps$HeapProcess;)V"⟩
abbrev Y_PH_dropUnusedCharges : ByteArray × String × Nat × Option FieldType × Bool × Room := (prog_1_method_35_code, "ProcessHeaps", 3, none, false, { frames := 4, cells := 0, slots := 0, locals := 88 })
def yy_Pr_holdsObjectOf : MethodName := ⟨"ProcessHeaps$HeapProcess", "holdsObjectOf", "(I)Z"⟩
abbrev Y_Pr_holdsObjectOf : ByteArray × String × Nat × Option FieldType × Bool × Room := (prog_4_method_8_code, "ProcessHeaps$HeapProcess", 4, (some .boolean), false, { frames := 1, cells := 0, slots := 0, locals := 20 })
def yy_Ob_heapNumber : MethodName := ⟨"ProcessHeaps$HeapObject", "heapNumber", "()I"⟩
abbrev Y_Ob_heapNumber : ByteArray × String × Nat × Option FieldType × Bool × Room := (prog_3_method_2_code, "ProcessHeaps$HeapObject", 1, (some .int), false, { frames := 0, cells := 0, slots := 0, locals := 0 })
def yy_Me_hasItemInto : MethodName := ⟨"ProcessHeaps$Memory", "hasItemInto", "(II)Z"⟩
abbrev Y_Me_hasItemInto : ByteArray × String × Nat × Option FieldType × Bool × Room := (prog_6_method_6_code, "ProcessHeaps$Memory", 5, (some .boolean), false, { frames := 3, cells := 0, slots := 0, locals := 64 })
def yy_Ob_hasItem : MethodName := ⟨"ProcessHeaps$HeapObject", "hasItem", "(I)Z"⟩
abbrev Y_Ob_hasItem : ByteArray × String × Nat × Option FieldType × Bool × Room := (prog_3_method_7_code, "ProcessHeaps$HeapObject", 2, (some .boolean), false, { frames := 0, cells := 0, slots := 0, locals := 0 })
def yy_Pr_dropCharge : MethodName := ⟨"ProcessHeaps$HeapProcess", "dropCharge", "(I)V"⟩
abbrev Y_Pr_dropCharge : ByteArray × String × Nat × Option FieldType × Bool × Room := (prog_4_method_6_code, "ProcessHeaps$HeapProcess", 2, none, false, { frames := 0, cells := 0, slots := 0, locals := 0 })
def yy_Me_mergeIntoKernel : MethodName := ⟨"ProcessHeaps$Memory", "mergeIntoKernel", "(I)V"⟩
abbrev Y_Me_mergeIntoKernel : ByteArray × String × Nat × Option FieldType × Bool × Room := (prog_6_method_13_code, "ProcessHeaps$Memory", 6, none, false, { frames := 7, cells := 0, slots := 0, locals := 169 })
def yy_AL_remove : MethodName := ⟨"java/util/ArrayList", "remove", "(I)Ljava/lang/Object;"⟩
abbrev Y_AL_remove : ByteArray × String × Nat × Option FieldType × Bool × Room := (prog_17_method_29_code, "java/util/ArrayList", 4, (some (.object "java/lang/Object")), false, { frames := 2, cells := 0, slots := 0, locals := 61 })
def yy_AL_fastRemove : MethodName := ⟨"java/util/ArrayList", "fastRemove", "([Ljava/lang/Object;I)V"⟩
abbrev Y_AL_fastRemove : ByteArray × String × Nat × Option FieldType × Bool × Room := (prog_17_method_39_code, "java/util/ArrayList", 4, none, false, { frames := 1, cells := 0, slots := 0, locals := 38 })
def yy_AL_add : MethodName := ⟨"java/util/ArrayList", "add", "(Ljava/lang/Object;)Z"⟩
abbrev Y_AL_add : ByteArray × String × Nat × Option FieldType × Bool × Room := (prog_17_method_25_code, "java/util/ArrayList", 2, (some .boolean), false, { frames := 6, cells := 1, slots := 100, locals := 148 })
def yy_AL_add2 : MethodName := ⟨"java/util/ArrayList", "add", "(Ljava/lang/Object;[Ljava/lang/Object;I)V"⟩
abbrev Y_AL_add2 : ByteArray × String × Nat × Option FieldType × Bool × Room := (prog_17_method_24_code, "java/util/ArrayList", 4, none, false, { frames := 5, cells := 1, slots := 100, locals := 125 })
def yy_AL_grow : MethodName := ⟨"java/util/ArrayList", "grow", "()[Ljava/lang/Object;"⟩
abbrev Y_AL_grow : ByteArray × String × Nat × Option FieldType × Bool × Room := (prog_17_method_7_code, "java/util/ArrayList", 1, (some (.array (.object "java/lang/Object"))), false, { frames := 4, cells := 1, slots := 100, locals := 105 })
def yy_AL_grow2 : MethodName := ⟨"java/util/ArrayList", "grow", "(I)[Ljava/lang/Object;"⟩
abbrev Y_AL_grow2 : ByteArray × String × Nat × Option FieldType × Bool × Room := (prog_17_method_6_code, "java/util/ArrayList", 4, (some (.array (.object "java/lang/Object"))), false, { frames := 3, cells := 1, slots := 100, locals := 82 })
def yy_As_newLength : MethodName := ⟨"jdk/internal/util/ArraysSupport", "newLength", "(III)I"⟩
abbrev Y_As_newLength : ByteArray × String × Nat × Option FieldType × Bool × Room := (prog_24_method_27_code, "jdk/internal/util/ArraysSupport", 4, (some .int), false, { frames := 1, cells := 0, slots := 0, locals := 22 })
def yy_As_hugeLength : MethodName := ⟨"jdk/internal/util/ArraysSupport", "hugeLength", "(II)I"⟩
abbrev Y_As_hugeLength : ByteArray × String × Nat × Option FieldType × Bool × Room := (prog_24_method_28_code, "jdk/internal/util/ArraysSupport", 3, (some .int), false, { frames := 0, cells := 0, slots := 0, locals := 0 })
def yy_Ar_copyOf : MethodName := ⟨"java/util/Arrays", "copyOf", "([Ljava/lang/Object;I)[Ljava/lang/Object;"⟩
abbrev Y_Ar_copyOf : ByteArray × String × Nat × Option FieldType × Bool × Room := (prog_18_method_119_code, "java/util/Arrays", 2, (some (.array (.object "java/lang/Object"))), false, { frames := 2, cells := 1, slots := 100, locals := 61 })
def yy_Ar_copyOf2 : MethodName := ⟨"java/util/Arrays", "copyOf", "([Ljava/lang/Object;ILjava/lang/Class;)[Ljava/lang/Object;"⟩
abbrev Y_Ar_copyOf2 : ByteArray × String × Nat × Option FieldType × Bool × Room := (prog_18_method_120_code, "java/util/Arrays", 4, (some (.array (.object "java/lang/Object"))), false, { frames := 1, cells := 1, slots := 100, locals := 38 })
def yy_Me_handItemsToKernel : MethodName := ⟨"ProcessHeaps$Memory", "handItemsToKernel", "(I)V"⟩
abbrev Y_Me_handItemsToKernel : ByteArray × String × Nat × Option FieldType × Bool × Room := (prog_6_method_14_code, "ProcessHeaps$Memory", 4, none, false, { frames := 3, cells := 0, slots := 0, locals := 64 })
def yy_Ob_dropItem : MethodName := ⟨"ProcessHeaps$HeapObject", "dropItem", "(I)V"⟩
abbrev Y_Ob_dropItem : ByteArray × String × Nat × Option FieldType × Bool × Room := (prog_3_method_9_code, "ProcessHeaps$HeapObject", 2, none, false, { frames := 0, cells := 0, slots := 0, locals := 0 })
def yy_Ob_addItem : MethodName := ⟨"ProcessHeaps$HeapObject", "addItem", "(I)V"⟩
abbrev Y_Ob_addItem : ByteArray × String × Nat × Option FieldType × Bool × Room := (prog_3_method_8_code, "ProcessHeaps$HeapObject", 2, none, false, { frames := 0, cells := 0, slots := 0, locals := 0 })
def yy_PH_dropGoneHeaps : MethodName := ⟨"ProcessHeaps", "dropGoneHeaps", "()V"⟩
abbrev Y_PH_dropGoneHeaps : ByteArray × String × Nat × Option FieldType × Bool × Room := (prog_1_method_38_code, "ProcessHeaps", 2, none, false, { frames := 5, cells := 0, slots := 0, locals := 129 })
def yy_PH_isFrozen : MethodName := ⟨"ProcessHeaps", "isFrozen", "(I)Z"⟩
abbrev Y_PH_isFrozen : ByteArray × String × Nat × Option FieldType × Bool × Room := (prog_1_method_25_code, "ProcessHeaps", 2, (some .boolean), false, { frames := 1, cells := 0, slots := 0, locals := 20 })
def yy_PH_isHeap : MethodName := ⟨"ProcessHeaps", "isHeap", "(I)Z"⟩
abbrev Y_PH_isHeap : ByteArray × String × Nat × Option FieldType × Bool × Room := (prog_1_method_24_code, "ProcessHeaps", 1, (some .boolean), false, { frames := 0, cells := 0, slots := 0, locals := 0 })
def yy_PH_isSharedByLiving : MethodName := ⟨"ProcessHeaps", "isSharedByLiving", "(I)Z"⟩
abbrev Y_PH_isSharedByLiving : ByteArray × String × Nat × Option FieldType × Bool × Room := (prog_1_method_39_code, "ProcessHeaps", 3, (some .boolean), false, { frames := 1, cells := 0, slots := 0, locals := 21 })
def yy_Me_freeUnreached : MethodName := ⟨"ProcessHeaps$Memory", "freeUnreached", "(I)I"⟩
abbrev Y_Me_freeUnreached : ByteArray × String × Nat × Option FieldType × Bool × Room := (prog_6_method_10_code, "ProcessHeaps$Memory", 5, (some .int), false, { frames := 4, cells := 0, slots := 0, locals := 105 })
def yy_Me_giveBackEmptyPages : MethodName := ⟨"ProcessHeaps$Memory", "giveBackEmptyPages", "()V"⟩
abbrev Y_Me_giveBackEmptyPages : ByteArray × String × Nat × Option FieldType × Bool × Room := (prog_6_method_11_code, "ProcessHeaps$Memory", 2, none, false, { frames := 3, cells := 0, slots := 0, locals := 84 })
def yy_PH_endPaymentOfDead : MethodName := ⟨"ProcessHeaps", "endPaymentOfDead", "(I)V"⟩
abbrev Y_PH_endPaymentOfDead : ByteArray × String × Nat × Option FieldType × Bool × Room := (prog_1_method_37_code, "ProcessHeaps", 3, none, false, { frames := 1, cells := 0, slots := 0, locals := 21 })
def yy_PH_mode : MethodName := ⟨"ProcessHeaps", "mode", "(IZ)Z"⟩
abbrev Y_PH_mode : ByteArray × String × Nat × Option FieldType × Bool × Room := (prog_1_method_4_code, "ProcessHeaps", 4, (some .boolean), false, { frames := 9, cells := 0, slots := 0, locals := 216 })
def yy_PH_make : MethodName := ⟨"ProcessHeaps", "make", "(IIII)I"⟩
abbrev Y_PH_make : ByteArray × String × Nat × Option FieldType × Bool × Room := (prog_1_method_5_code, "ProcessHeaps", 7, (some .int), false, { frames := 9, cells := 7, slots := 315, locals := 217 })
def yy_PH_isRegister : MethodName := ⟨"ProcessHeaps", "isRegister", "(I)Z"⟩
abbrev Y_PH_isRegister : ByteArray × String × Nat × Option FieldType × Bool × Room := (prog_1_method_22_code, "ProcessHeaps", 1, (some .boolean), false, { frames := 0, cells := 0, slots := 0, locals := 0 })
def yy_PH_pageForMaking : MethodName := ⟨"ProcessHeaps", "pageForMaking", "(LProcessHeaps$HeapProcess;I)LProcessHeaps$Page;"⟩
abbrev Y_PH_pageForMaking : ByteArray × String × Nat × Option FieldType × Bool × Room := (prog_1_method_29_code, "ProcessHeaps", 6, (some (.object "ProcessHeaps$Page")), false, { frames := 8, cells := 2, slots := 103, locals := 192 })
def yy_Pr_heapForMaking : MethodName := ⟨"ProcessHeaps$HeapProcess", "heapForMaking", "()I"⟩
abbrev Y_Pr_heapForMaking : ByteArray × String × Nat × Option FieldType × Bool × Room := (prog_4_method_7_code, "ProcessHeaps$HeapProcess", 1, (some .int), false, { frames := 1, cells := 0, slots := 0, locals := 20 })
def yy_Me_findPage : MethodName := ⟨"ProcessHeaps$Memory", "findPage", "(II)LProcessHeaps$Page;"⟩
abbrev Y_Me_findPage : ByteArray × String × Nat × Option FieldType × Bool × Room := (prog_6_method_7_code, "ProcessHeaps$Memory", 5, (some (.object "ProcessHeaps$Page")), false, { frames := 3, cells := 0, slots := 0, locals := 64 })
def yy_Me_addPage : MethodName := ⟨"ProcessHeaps$Memory", "addPage", "(II)LProcessHeaps$Page;"⟩
abbrev Y_Me_addPage : ByteArray × String × Nat × Option FieldType × Bool × Room := (prog_6_method_8_code, "ProcessHeaps$Memory", 4, (some (.object "ProcessHeaps$Page")), false, { frames := 7, cells := 2, slots := 103, locals := 169 })
def yy_Pa_init : MethodName := ⟨"ProcessHeaps$Page", "<init>", "(II)V"⟩
abbrev Y_Pa_init : ByteArray × String × Nat × Option FieldType × Bool × Room := (prog_7_method_1_code, "ProcessHeaps$Page", 3, none, true, { frames := 1, cells := 0, slots := 0, locals := 20 })
def yy_PH_collectHeap : MethodName := ⟨"ProcessHeaps", "collectHeap", "(I)I"⟩
abbrev Y_PH_collectHeap : ByteArray × String × Nat × Option FieldType × Bool × Room := (prog_1_method_33_code, "ProcessHeaps", 3, (some .int), false, { frames := 6, cells := 0, slots := 0, locals := 153 })
def yy_Co_run : MethodName := ⟨"ProcessHeaps$Collector", "run", "(ILProcessHeaps$Memory;[LProcessHeaps$HeapProcess;)I"⟩
abbrev Y_Co_run : ByteArray × String × Nat × Option FieldType × Bool × Room := (prog_2_method_2_code, "ProcessHeaps$Collector", 5, (some .int), false, { frames := 5, cells := 0, slots := 0, locals := 129 })
def yy_Co_reachHeld : MethodName := ⟨"ProcessHeaps$Collector", "reachHeld", "(I[LProcessHeaps$HeapProcess;)V"⟩
abbrev Y_Co_reachHeld : ByteArray × String × Nat × Option FieldType × Bool × Room := (prog_2_method_3_code, "ProcessHeaps$Collector", 5, none, false, { frames := 2, cells := 0, slots := 0, locals := 42 })
def yy_Co_reachObject : MethodName := ⟨"ProcessHeaps$Collector", "reachObject", "(ILProcessHeaps$HeapObject;)V"⟩
abbrev Y_Co_reachObject : ByteArray × String × Nat × Option FieldType × Bool × Room := (prog_2_method_6_code, "ProcessHeaps$Collector", 3, none, false, { frames := 1, cells := 0, slots := 0, locals := 20 })
def yy_Co_reachNamedFromOutside : MethodName := ⟨"ProcessHeaps$Collector", "reachNamedFromOutside", "(ILProcessHeaps$Memory;)V"⟩
abbrev Y_Co_reachNamedFromOutside : ByteArray × String × Nat × Option FieldType × Bool × Room := (prog_2_method_4_code, "ProcessHeaps$Collector", 4, none, false, { frames := 3, cells := 0, slots := 0, locals := 64 })
def yy_Ob_hasAnyItem : MethodName := ⟨"ProcessHeaps$HeapObject", "hasAnyItem", "()Z"⟩
abbrev Y_Ob_hasAnyItem : ByteArray × String × Nat × Option FieldType × Bool × Room := (prog_3_method_6_code, "ProcessHeaps$HeapObject", 1, (some .boolean), false, { frames := 0, cells := 0, slots := 0, locals := 0 })
def yy_Co_followFields : MethodName := ⟨"ProcessHeaps$Collector", "followFields", "(I)V"⟩
abbrev Y_Co_followFields : ByteArray × String × Nat × Option FieldType × Bool × Room := (prog_2_method_5_code, "ProcessHeaps$Collector", 4, none, false, { frames := 2, cells := 0, slots := 0, locals := 42 })
def yy_Co_loseItems : MethodName := ⟨"ProcessHeaps$Collector", "loseItems", "(ILProcessHeaps$Memory;)V"⟩
abbrev Y_Co_loseItems : ByteArray × String × Nat × Option FieldType × Bool × Room := (prog_2_method_7_code, "ProcessHeaps$Collector", 4, none, false, { frames := 3, cells := 0, slots := 0, locals := 64 })
def yy_Ob_addItemsForFields : MethodName := ⟨"ProcessHeaps$HeapObject", "addItemsForFields", "()V"⟩
abbrev Y_Ob_addItemsForFields : ByteArray × String × Nat × Option FieldType × Bool × Room := (prog_3_method_4_code, "ProcessHeaps$HeapObject", 2, none, false, { frames := 2, cells := 0, slots := 0, locals := 42 })
def yy_Ob_addItemFor : MethodName := ⟨"ProcessHeaps$HeapObject", "addItemFor", "(LProcessHeaps$HeapObject;)V"⟩
abbrev Y_Ob_addItemFor : ByteArray × String × Nat × Option FieldType × Bool × Room := (prog_3_method_5_code, "ProcessHeaps$HeapObject", 2, none, false, { frames := 1, cells := 0, slots := 0, locals := 21 })
def yy_PH_dropChargesOfDead : MethodName := ⟨"ProcessHeaps", "dropChargesOfDead", "()V"⟩
abbrev Y_PH_dropChargesOfDead : ByteArray × String × Nat × Option FieldType × Bool × Room := (prog_1_method_36_code, "ProcessHeaps", 2, none, false, { frames := 4, cells := 0, slots := 0, locals := 88 })
def yy_Me_putObject : MethodName := ⟨"ProcessHeaps$Memory", "putObject", "(LProcessHeaps$Page;II)LProcessHeaps$HeapObject;"⟩
abbrev Y_Me_putObject : ByteArray × String × Nat × Option FieldType × Bool × Room := (prog_6_method_9_code, "ProcessHeaps$Memory", 5, (some (.object "ProcessHeaps$HeapObject")), false, { frames := 7, cells := 3, slots := 109, locals := 169 })
def yy_Ob_init : MethodName := ⟨"ProcessHeaps$HeapObject", "<init>", "(LProcessHeaps$Page;II)V"⟩
abbrev Y_Ob_init : ByteArray × String × Nat × Option FieldType × Bool × Room := (prog_3_method_1_code, "ProcessHeaps$HeapObject", 4, none, true, { frames := 1, cells := 1, slots := 3, locals := 20 })
def yy_PH_store : MethodName := ⟨"ProcessHeaps", "store", "(IIII)I"⟩
abbrev Y_PH_store : ByteArray × String × Nat × Option FieldType × Bool × Room := (prog_1_method_6_code, "ProcessHeaps", 8, (some .int), false, { frames := 3, cells := 0, slots := 0, locals := 66 })
def yy_PH_isField : MethodName := ⟨"ProcessHeaps", "isField", "(I)Z"⟩
abbrev Y_PH_isField : ByteArray × String × Nat × Option FieldType × Bool × Room := (prog_1_method_23_code, "ProcessHeaps", 1, (some .boolean), false, { frames := 0, cells := 0, slots := 0, locals := 0 })
def yy_PH_mayChange : MethodName := ⟨"ProcessHeaps", "mayChange", "(LProcessHeaps$HeapProcess;LProcessHeaps$HeapObject;)Z"⟩
abbrev Y_PH_mayChange : ByteArray × String × Nat × Option FieldType × Bool × Room := (prog_1_method_30_code, "ProcessHeaps", 4, (some .boolean), false, { frames := 2, cells := 0, slots := 0, locals := 41 })
def yy_PH_mayName : MethodName := ⟨"ProcessHeaps", "mayName", "(LProcessHeaps$HeapProcess;LProcessHeaps$HeapObject;LProcessHeaps$HeapObject;)Z"⟩
abbrev Y_PH_mayName : ByteArray × String × Nat × Option FieldType × Bool × Room := (prog_1_method_31_code, "ProcessHeaps", 6, (some .boolean), false, { frames := 2, cells := 0, slots := 0, locals := 41 })
def yy_Ob_setField : MethodName := ⟨"ProcessHeaps$HeapObject", "setField", "(ILProcessHeaps$HeapObject;)V"⟩
abbrev Y_Ob_setField : ByteArray × String × Nat × Option FieldType × Bool × Room := (prog_3_method_3_code, "ProcessHeaps$HeapObject", 3, none, false, { frames := 2, cells := 0, slots := 0, locals := 42 })
def yy_PH_load : MethodName := ⟨"ProcessHeaps", "load", "(IIII)I"⟩
abbrev Y_PH_load : ByteArray × String × Nat × Option FieldType × Bool × Room := (prog_1_method_7_code, "ProcessHeaps", 8, (some .int), false, { frames := 3, cells := 0, slots := 0, locals := 64 })
def yy_PH_mayHold : MethodName := ⟨"ProcessHeaps", "mayHold", "(LProcessHeaps$HeapProcess;LProcessHeaps$HeapObject;)Z"⟩
abbrev Y_PH_mayHold : ByteArray × String × Nat × Option FieldType × Bool × Room := (prog_1_method_32_code, "ProcessHeaps", 4, (some .boolean), false, { frames := 2, cells := 0, slots := 0, locals := 41 })
def yy_PH_move : MethodName := ⟨"ProcessHeaps", "move", "(III)Z"⟩
abbrev Y_PH_move : ByteArray × String × Nat × Option FieldType × Bool × Room := (prog_1_method_8_code, "ProcessHeaps", 5, (some .boolean), false, { frames := 2, cells := 0, slots := 0, locals := 42 })
def yy_PH_begin : MethodName := ⟨"ProcessHeaps", "begin", "(I)I"⟩
abbrev Y_PH_begin : ByteArray × String × Nat × Option FieldType × Bool × Room := (prog_1_method_9_code, "ProcessHeaps", 3, (some .int), false, { frames := 2, cells := 0, slots := 0, locals := 42 })
def yy_PH_freeze : MethodName := ⟨"ProcessHeaps", "freeze", "(II)I"⟩
abbrev Y_PH_freeze : ByteArray × String × Nat × Option FieldType × Bool × Room := (prog_1_method_10_code, "ProcessHeaps", 6, (some .int), false, { frames := 4, cells := 0, slots := 0, locals := 87 })
def yy_Me_endSinglePayment : MethodName := ⟨"ProcessHeaps$Memory", "endSinglePayment", "(I)V"⟩
abbrev Y_Me_endSinglePayment : ByteArray × String × Nat × Option FieldType × Bool × Room := (prog_6_method_12_code, "ProcessHeaps$Memory", 4, none, false, { frames := 3, cells := 0, slots := 0, locals := 64 })
def yy_Pr_addCharge : MethodName := ⟨"ProcessHeaps$HeapProcess", "addCharge", "(I)V"⟩
abbrev Y_Pr_addCharge : ByteArray × String × Nat × Option FieldType × Bool × Room := (prog_4_method_5_code, "ProcessHeaps$HeapProcess", 2, none, false, { frames := 0, cells := 0, slots := 0, locals := 0 })
def yy_PH_lookup : MethodName := ⟨"ProcessHeaps", "lookup", "(III)I"⟩
abbrev Y_PH_lookup : ByteArray × String × Nat × Option FieldType × Bool × Room := (prog_1_method_11_code, "ProcessHeaps", 6, (some .int), false, { frames := 7, cells := 0, slots := 0, locals := 175 })
def yy_Me_countPages : MethodName := ⟨"ProcessHeaps$Memory", "countPages", "(I)I"⟩
abbrev Y_Me_countPages : ByteArray × String × Nat × Option FieldType × Bool × Room := (prog_6_method_2_code, "ProcessHeaps$Memory", 4, (some .int), false, { frames := 3, cells := 0, slots := 0, locals := 64 })
def yy_PH_collect : MethodName := ⟨"ProcessHeaps", "collect", "(I)I"⟩
abbrev Y_PH_collect : ByteArray × String × Nat × Option FieldType × Bool × Room := (prog_1_method_12_code, "ProcessHeaps", 2, (some .int), false, { frames := 7, cells := 0, slots := 0, locals := 175 })
def yy_PH_state : MethodName := ⟨"ProcessHeaps", "state", "(I)I"⟩
abbrev Y_PH_state : ByteArray × String × Nat × Option FieldType × Bool × Room := (prog_1_method_13_code, "ProcessHeaps", 2, (some .int), false, { frames := 1, cells := 0, slots := 0, locals := 21 })
def yy_PH_pages : MethodName := ⟨"ProcessHeaps", "pages", "(I)I"⟩
abbrev Y_PH_pages : ByteArray × String × Nat × Option FieldType × Bool × Room := (prog_1_method_14_code, "ProcessHeaps", 2, (some .int), false, { frames := 4, cells := 0, slots := 0, locals := 87 })
def yy_PH_objects : MethodName := ⟨"ProcessHeaps", "objects", "(I)I"⟩
abbrev Y_PH_objects : ByteArray × String × Nat × Option FieldType × Bool × Room := (prog_1_method_15_code, "ProcessHeaps", 2, (some .int), false, { frames := 4, cells := 0, slots := 0, locals := 87 })
def yy_Me_countObjects : MethodName := ⟨"ProcessHeaps$Memory", "countObjects", "(I)I"⟩
abbrev Y_Me_countObjects : ByteArray × String × Nat × Option FieldType × Bool × Room := (prog_6_method_4_code, "ProcessHeaps$Memory", 4, (some .int), false, { frames := 3, cells := 0, slots := 0, locals := 64 })
def yy_PH_items : MethodName := ⟨"ProcessHeaps", "items", "(I)I"⟩
abbrev Y_PH_items : ByteArray × String × Nat × Option FieldType × Bool × Room := (prog_1_method_16_code, "ProcessHeaps", 2, (some .int), false, { frames := 4, cells := 0, slots := 0, locals := 87 })
def yy_Me_countItems : MethodName := ⟨"ProcessHeaps$Memory", "countItems", "(I)I"⟩
abbrev Y_Me_countItems : ByteArray × String × Nat × Option FieldType × Bool × Room := (prog_6_method_5_code, "ProcessHeaps$Memory", 4, (some .int), false, { frames := 3, cells := 0, slots := 0, locals := 64 })
def yy_PH_use : MethodName := ⟨"ProcessHeaps", "use", "(I)I"⟩
abbrev Y_PH_use : ByteArray × String × Nat × Option FieldType × Bool × Room := (prog_1_method_17_code, "ProcessHeaps", 2, (some .int), false, { frames := 6, cells := 0, slots := 0, locals := 134 })
def yy_PH_room : MethodName := ⟨"ProcessHeaps", "room", "(I)I"⟩
abbrev Y_PH_room : ByteArray × String × Nat × Option FieldType × Bool × Room := (prog_1_method_18_code, "ProcessHeaps", 2, (some .int), false, { frames := 6, cells := 0, slots := 0, locals := 134 })
def yy_PH_shares : MethodName := ⟨"ProcessHeaps", "shares", "(II)Z"⟩
abbrev Y_PH_shares : ByteArray × String × Nat × Option FieldType × Bool × Room := (prog_1_method_19_code, "ProcessHeaps", 4, (some .boolean), false, { frames := 2, cells := 0, slots := 0, locals := 42 })
def yy_PH_where : MethodName := ⟨"ProcessHeaps", "where", "(II)I"⟩
abbrev Y_PH_where : ByteArray × String × Nat × Option FieldType × Bool × Room := (prog_1_method_20_code, "ProcessHeaps", 5, (some .int), false, { frames := 2, cells := 0, slots := 0, locals := 42 })
def yy_PH_tag : MethodName := ⟨"ProcessHeaps", "tag", "(II)I"⟩
abbrev Y_PH_tag : ByteArray × String × Nat × Option FieldType × Bool × Room := (prog_1_method_21_code, "ProcessHeaps", 5, (some .int), false, { frames := 2, cells := 0, slots := 0, locals := 42 })
def yy_La_cell : MethodName := ⟨"ProcessHeapsLaw", "cell", "([II)I"⟩
abbrev Y_La_cell : ByteArray × String × Nat × Option FieldType × Bool × Room := (method_2_code, "ProcessHeapsLaw", 2, (some .int), false, { frames := 0, cells := 0, slots := 0, locals := 0 })
def yy_Mo_init : MethodName := ⟨"ProcessHeapsModel", "<init>", "(I)V"⟩
abbrev Y_Mo_init : ByteArray × String × Nat × Option FieldType × Bool × Room := (prog_9_method_1_code, "ProcessHeapsModel", 2, none, true, { frames := 1, cells := 22, slots := 1568, locals := 20 })
def yy_Mo_spawn : MethodName := ⟨"ProcessHeapsModel", "spawn", "(IIZ)I"⟩
abbrev Y_Mo_spawn : ByteArray × String × Nat × Option FieldType × Bool × Room := (prog_9_method_17_code, "ProcessHeapsModel", 4, (some .int), false, { frames := 3, cells := 0, slots := 0, locals := 72 })
def yy_Mo_lives : MethodName := ⟨"ProcessHeapsModel", "lives", "(I)Z"⟩
abbrev Y_Mo_lives : ByteArray × String × Nat × Option FieldType × Bool × Room := (prog_9_method_2_code, "ProcessHeapsModel", 2, (some .boolean), false, { frames := 0, cells := 0, slots := 0, locals := 0 })
def yy_Mo_rest : MethodName := ⟨"ProcessHeapsModel", "rest", "(I)I"⟩
abbrev Y_Mo_rest : ByteArray × String × Nat × Option FieldType × Bool × Room := (prog_9_method_6_code, "ProcessHeapsModel", 5, (some .int), false, { frames := 2, cells := 0, slots := 0, locals := 48 })
def yy_Mo_work : MethodName := ⟨"ProcessHeapsModel", "work", "()V"⟩
abbrev Y_Mo_work : ByteArray × String × Nat × Option FieldType × Bool × Room := (prog_9_method_5_code, "ProcessHeapsModel", 6, none, false, { frames := 1, cells := 0, slots := 0, locals := 23 })
def yy_Mo_frozen : MethodName := ⟨"ProcessHeapsModel", "frozen", "(I)Z"⟩
abbrev Y_Mo_frozen : ByteArray × String × Nat × Option FieldType × Bool × Room := (prog_9_method_4_code, "ProcessHeapsModel", 2, (some .boolean), false, { frames := 0, cells := 0, slots := 0, locals := 0 })
def yy_Mo_pages : MethodName := ⟨"ProcessHeapsModel", "pages", "(I)I"⟩
abbrev Y_Mo_pages : ByteArray × String × Nat × Option FieldType × Bool × Room := (prog_9_method_31_code, "ProcessHeapsModel", 4, (some .int), false, { frames := 0, cells := 0, slots := 0, locals := 0 })
def yy_Mo_kill : MethodName := ⟨"ProcessHeapsModel", "kill", "(I)Z"⟩
abbrev Y_Mo_kill : ByteArray × String × Nat × Option FieldType × Bool × Room := (prog_9_method_18_code, "ProcessHeapsModel", 2, (some .boolean), false, { frames := 3, cells := 0, slots := 0, locals := 70 })
def yy_Mo_die : MethodName := ⟨"ProcessHeapsModel", "die", "(I)V"⟩
abbrev Y_Mo_die : ByteArray × String × Nat × Option FieldType × Bool × Room := (prog_9_method_16_code, "ProcessHeapsModel", 4, none, false, { frames := 2, cells := 0, slots := 0, locals := 47 })
def yy_Mo_names : MethodName := ⟨"ProcessHeapsModel", "names", "(II)Z"⟩
abbrev Y_Mo_names : ByteArray × String × Nat × Option FieldType × Bool × Room := (prog_9_method_8_code, "ProcessHeapsModel", 5, (some .boolean), false, { frames := 0, cells := 0, slots := 0, locals := 0 })
def yy_Mo_merge : MethodName := ⟨"ProcessHeapsModel", "merge", "(I)V"⟩
abbrev Y_Mo_merge : ByteArray × String × Nat × Option FieldType × Bool × Room := (prog_9_method_15_code, "ProcessHeapsModel", 5, none, false, { frames := 0, cells := 0, slots := 0, locals := 0 })
def yy_Mo_vanish : MethodName := ⟨"ProcessHeapsModel", "vanish", "()V"⟩
abbrev Y_Mo_vanish : ByteArray × String × Nat × Option FieldType × Bool × Room := (prog_9_method_14_code, "ProcessHeapsModel", 4, none, false, { frames := 1, cells := 0, slots := 0, locals := 24 })
def yy_Mo_free : MethodName := ⟨"ProcessHeapsModel", "free", "(I)V"⟩
abbrev Y_Mo_free : ByteArray × String × Nat × Option FieldType × Bool × Room := (prog_9_method_7_code, "ProcessHeapsModel", 5, none, false, { frames := 0, cells := 0, slots := 0, locals := 0 })
def yy_Mo_mode : MethodName := ⟨"ProcessHeapsModel", "mode", "(IZ)Z"⟩
abbrev Y_Mo_mode : ByteArray × String × Nat × Option FieldType × Bool × Room := (prog_9_method_19_code, "ProcessHeapsModel", 3, (some .boolean), false, { frames := 3, cells := 0, slots := 0, locals := 70 })
def yy_Mo_make : MethodName := ⟨"ProcessHeapsModel", "make", "(IIII)I"⟩
abbrev Y_Mo_make : ByteArray × String × Nat × Option FieldType × Bool × Room := (prog_9_method_22_code, "ProcessHeapsModel", 11, (some .int), false, { frames := 4, cells := 0, slots := 0, locals := 96 })
def yy_Mo_isRegister : MethodName := ⟨"ProcessHeapsModel", "isRegister", "(I)Z"⟩
abbrev Y_Mo_isRegister : ByteArray × String × Nat × Option FieldType × Bool × Room := (prog_9_method_3_code, "ProcessHeapsModel", 1, (some .boolean), false, { frames := 0, cells := 0, slots := 0, locals := 0 })
def yy_Mo_find : MethodName := ⟨"ProcessHeapsModel", "find", "(III)I"⟩
abbrev Y_Mo_find : ByteArray × String × Nat × Option FieldType × Bool × Room := (prog_9_method_21_code, "ProcessHeapsModel", 5, (some .int), false, { frames := 3, cells := 0, slots := 0, locals := 72 })
def yy_Mo_fitting : MethodName := ⟨"ProcessHeapsModel", "fitting", "(II)I"⟩
abbrev Y_Mo_fitting : ByteArray × String × Nat × Option FieldType × Bool × Room := (prog_9_method_20_code, "ProcessHeapsModel", 7, (some .int), false, { frames := 0, cells := 0, slots := 0, locals := 0 })
def yy_Mo_sweep : MethodName := ⟨"ProcessHeapsModel", "sweep", "(I)I"⟩
abbrev Y_Mo_sweep : ByteArray × String × Nat × Option FieldType × Bool × Room := (prog_9_method_13_code, "ProcessHeapsModel", 6, (some .int), false, { frames := 3, cells := 0, slots := 0, locals := 70 })
def yy_Mo_reach : MethodName := ⟨"ProcessHeapsModel", "reach", "(I)V"⟩
abbrev Y_Mo_reach : ByteArray × String × Nat × Option FieldType × Bool × Room := (prog_9_method_11_code, "ProcessHeapsModel", 6, none, false, { frames := 2, cells := 0, slots := 0, locals := 45 })
def yy_Mo_root : MethodName := ⟨"ProcessHeapsModel", "root", "(II)Z"⟩
abbrev Y_Mo_root : ByteArray × String × Nat × Option FieldType × Bool × Room := (prog_9_method_10_code, "ProcessHeapsModel", 5, (some .boolean), false, { frames := 1, cells := 0, slots := 0, locals := 21 })
def yy_Mo_inField : MethodName := ⟨"ProcessHeapsModel", "inField", "(II)Z"⟩
abbrev Y_Mo_inField : ByteArray × String × Nat × Option FieldType × Bool × Room := (prog_9_method_12_code, "ProcessHeapsModel", 5, (some .boolean), false, { frames := 0, cells := 0, slots := 0, locals := 0 })
def yy_Mo_holds : MethodName := ⟨"ProcessHeapsModel", "holds", "(II)Z"⟩
abbrev Y_Mo_holds : ByteArray × String × Nat × Option FieldType × Bool × Room := (prog_9_method_9_code, "ProcessHeapsModel", 6, (some .boolean), false, { frames := 0, cells := 0, slots := 0, locals := 0 })
def yy_Mo_store : MethodName := ⟨"ProcessHeapsModel", "store", "(IIII)I"⟩
abbrev Y_Mo_store : ByteArray × String × Nat × Option FieldType × Bool × Room := (prog_9_method_23_code, "ProcessHeapsModel", 10, (some .int), false, { frames := 1, cells := 0, slots := 0, locals := 21 })
def yy_Mo_load : MethodName := ⟨"ProcessHeapsModel", "load", "(IIII)I"⟩
abbrev Y_Mo_load : ByteArray × String × Nat × Option FieldType × Bool × Room := (prog_9_method_24_code, "ProcessHeapsModel", 8, (some .int), false, { frames := 1, cells := 0, slots := 0, locals := 21 })
def yy_Mo_move : MethodName := ⟨"ProcessHeapsModel", "move", "(III)Z"⟩
abbrev Y_Mo_move : ByteArray × String × Nat × Option FieldType × Bool × Room := (prog_9_method_25_code, "ProcessHeapsModel", 4, (some .boolean), false, { frames := 1, cells := 0, slots := 0, locals := 21 })
def yy_Mo_begin : MethodName := ⟨"ProcessHeapsModel", "begin", "(I)I"⟩
abbrev Y_Mo_begin : ByteArray × String × Nat × Option FieldType × Bool × Room := (prog_9_method_26_code, "ProcessHeapsModel", 3, (some .int), false, { frames := 1, cells := 0, slots := 0, locals := 21 })
def yy_Mo_freeze : MethodName := ⟨"ProcessHeapsModel", "freeze", "(II)I"⟩
abbrev Y_Mo_freeze : ByteArray × String × Nat × Option FieldType × Bool × Room := (prog_9_method_27_code, "ProcessHeapsModel", 5, (some .int), false, { frames := 1, cells := 0, slots := 0, locals := 21 })
def yy_Mo_lookup : MethodName := ⟨"ProcessHeapsModel", "lookup", "(III)I"⟩
abbrev Y_Mo_lookup : ByteArray × String × Nat × Option FieldType × Bool × Room := (prog_9_method_28_code, "ProcessHeapsModel", 5, (some .int), false, { frames := 4, cells := 0, slots := 0, locals := 95 })
def yy_Mo_collect : MethodName := ⟨"ProcessHeapsModel", "collect", "(I)I"⟩
abbrev Y_Mo_collect : ByteArray × String × Nat × Option FieldType × Bool × Room := (prog_9_method_29_code, "ProcessHeapsModel", 2, (some .int), false, { frames := 4, cells := 0, slots := 0, locals := 95 })
def yy_Mo_state : MethodName := ⟨"ProcessHeapsModel", "state", "(I)I"⟩
abbrev Y_Mo_state : ByteArray × String × Nat × Option FieldType × Bool × Room := (prog_9_method_30_code, "ProcessHeapsModel", 2, (some .int), false, { frames := 0, cells := 0, slots := 0, locals := 0 })
def yy_Mo_objects : MethodName := ⟨"ProcessHeapsModel", "objects", "(I)I"⟩
abbrev Y_Mo_objects : ByteArray × String × Nat × Option FieldType × Bool × Room := (prog_9_method_32_code, "ProcessHeapsModel", 4, (some .int), false, { frames := 0, cells := 0, slots := 0, locals := 0 })
def yy_Mo_items : MethodName := ⟨"ProcessHeapsModel", "items", "(I)I"⟩
abbrev Y_Mo_items : ByteArray × String × Nat × Option FieldType × Bool × Room := (prog_9_method_33_code, "ProcessHeapsModel", 4, (some .int), false, { frames := 0, cells := 0, slots := 0, locals := 0 })
def yy_Mo_use : MethodName := ⟨"ProcessHeapsModel", "use", "(I)I"⟩
abbrev Y_Mo_use : ByteArray × String × Nat × Option FieldType × Bool × Room := (prog_9_method_35_code, "ProcessHeapsModel", 2, (some .int), false, { frames := 3, cells := 0, slots := 0, locals := 69 })
def yy_Mo_exists : MethodName := ⟨"ProcessHeapsModel", "exists", "(I)Z"⟩
abbrev Y_Mo_exists : ByteArray × String × Nat × Option FieldType × Bool × Room := (prog_9_method_34_code, "ProcessHeapsModel", 2, (some .boolean), false, { frames := 2, cells := 0, slots := 0, locals := 48 })
def yy_Mo_room : MethodName := ⟨"ProcessHeapsModel", "room", "(I)I"⟩
abbrev Y_Mo_room : ByteArray × String × Nat × Option FieldType × Bool × Room := (prog_9_method_36_code, "ProcessHeapsModel", 2, (some .int), false, { frames := 3, cells := 0, slots := 0, locals := 72 })
def yy_Mo_shares : MethodName := ⟨"ProcessHeapsModel", "shares", "(II)Z"⟩
abbrev Y_Mo_shares : ByteArray × String × Nat × Option FieldType × Bool × Room := (prog_9_method_37_code, "ProcessHeapsModel", 3, (some .boolean), false, { frames := 1, cells := 0, slots := 0, locals := 21 })
def yy_Mo_where : MethodName := ⟨"ProcessHeapsModel", "where", "(II)I"⟩
abbrev Y_Mo_where : ByteArray × String × Nat × Option FieldType × Bool × Room := (prog_9_method_38_code, "ProcessHeapsModel", 4, (some .int), false, { frames := 1, cells := 0, slots := 0, locals := 21 })
def yy_Mo_tag : MethodName := ⟨"ProcessHeapsModel", "tag", "(II)I"⟩
abbrev Y_Mo_tag : ByteArray × String × Nat × Option FieldType × Bool × Room := (prog_9_method_39_code, "ProcessHeapsModel", 4, (some .int), false, { frames := 1, cells := 0, slots := 0, locals := 21 })
