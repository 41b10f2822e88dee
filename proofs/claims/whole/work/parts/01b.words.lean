/-! The tables' words that calls keep, each by its place. -/
def gTb : List Cond := lw_tbl.filter goodWord
theorem gTb_in {w : Cond} (i : Nat) (h : lw_tbl[i]? = some w) (g : goodWord w = true) : w ∈ gTb := List.mem_filter.mpr ⟨List.mem_of_getElem? h, g⟩
theorem gTb_good {x : Cond} {ws : List Cond} (h : ∀ w ∈ ws, w ∈ gTb) : GoodIn (x :: gTb) ws := fun w hw => ⟨List.mem_cons_of_mem _ (h w hw), good_of_word (List.mem_filter.mp (h w hw)).2⟩
theorem gT_1 {w : Cond} (i : Nat) (h : tables_1_1[i]? = some w) (g : goodWord w = true) : w ∈ gTb := List.mem_filter.mpr ⟨List.mem_append_right _ (List.mem_append_left _ (List.mem_of_getElem? h)), g⟩
theorem gT_2 {w : Cond} (i : Nat) (h : tables_1_2[i]? = some w) (g : goodWord w = true) : w ∈ gTb := List.mem_filter.mpr ⟨List.mem_append_right _ (List.mem_append_right _ (List.mem_append_left _ (List.mem_of_getElem? h))), g⟩
theorem gT_3 {w : Cond} (i : Nat) (h : tables_1_3[i]? = some w) (g : goodWord w = true) : w ∈ gTb := List.mem_filter.mpr ⟨List.mem_append_right _ (List.mem_append_right _ (List.mem_append_right _ (List.mem_append_left _ (List.mem_of_getElem? h)))), g⟩
theorem gT_4 {w : Cond} (i : Nat) (h : tables_1_4[i]? = some w) (g : goodWord w = true) : w ∈ gTb := List.mem_filter.mpr ⟨List.mem_append_right _ (List.mem_append_right _ (List.mem_append_right _ (List.mem_append_right _ (List.mem_append_left _ (List.mem_of_getElem? h))))), g⟩
theorem gT_5 {w : Cond} (i : Nat) (h : tables_1_5[i]? = some w) (g : goodWord w = true) : w ∈ gTb := List.mem_filter.mpr ⟨List.mem_append_right _ (List.mem_append_right _ (List.mem_append_right _ (List.mem_append_right _ (List.mem_append_right _ ((List.mem_of_getElem? h)))))), g⟩
theorem gs_0 : Cond.selects "LogDisk" ⟨"LogDisk", "syncFiles", "()V"⟩ ⟨"LogDisk", "syncFiles", "()V"⟩ ∈ gTb := gTb_in 0 rfl rfl
theorem gs_1 : Cond.selects "LogDisk" ⟨"LogDisk", "crashFiles", "(J)V"⟩ ⟨"LogDisk", "crashFiles", "(J)V"⟩ ∈ gTb := gTb_in 1 rfl rfl
theorem gs_2 : Cond.selects "LogDisk" ⟨"LogDisk", "findVote", "()V"⟩ ⟨"LogDisk", "findVote", "()V"⟩ ∈ gTb := gTb_in 2 rfl rfl
theorem gs_3 : Cond.selects "LogDisk" ⟨"LogDisk", "findSnapshot", "()V"⟩ ⟨"LogDisk", "findSnapshot", "()V"⟩ ∈ gTb := gTb_in 3 rfl rfl
theorem gs_4 : Cond.selects "LogDisk" ⟨"LogDisk", "findLog", "()V"⟩ ⟨"LogDisk", "findLog", "()V"⟩ ∈ gTb := gTb_in 4 rfl rfl
theorem gs_5 : Cond.selects "LogDisk" ⟨"LogDisk", "firstSegment", "()I"⟩ ⟨"LogDisk", "firstSegment", "()I"⟩ ∈ gTb := gTb_in 5 rfl rfl
theorem gs_6 : Cond.selects "LogDisk" ⟨"LogDisk", "readSegment", "(I)I"⟩ ⟨"LogDisk", "readSegment", "(I)I"⟩ ∈ gTb := gTb_in 6 rfl rfl
theorem gs_7 : Cond.selects "LogDisk" ⟨"LogDisk", "holdsBase", "(II)Z"⟩ ⟨"LogDisk", "holdsBase", "(II)Z"⟩ ∈ gTb := gTb_in 7 rfl rfl
theorem gs_8 : Cond.selects "LogDisk" ⟨"LogDisk", "followSegments", "(II)V"⟩ ⟨"LogDisk", "followSegments", "(II)V"⟩ ∈ gTb := gTb_in 8 rfl rfl
theorem gs_9 : Cond.selects "LogDisk" ⟨"LogDisk", "segmentBehind", "(II)I"⟩ ⟨"LogDisk", "segmentBehind", "(II)I"⟩ ∈ gTb := gTb_in 9 rfl rfl
theorem gs_10 : Cond.selects "java/lang/Throwable" ⟨"java/lang/Throwable", "fillInStackTrace", "(I)Ljava/lang/Throwable;"⟩ ⟨"java/lang/Throwable", "fillInStackTrace", "(I)Ljava/lang/Throwable;"⟩ ∈ gTb := gTb_in 10 rfl rfl
theorem gs_11 : Cond.selects "LogDisk" ⟨"LogDisk", "writeVote", "()V"⟩ ⟨"LogDisk", "writeVote", "()V"⟩ ∈ gTb := gTb_in 11 rfl rfl
theorem gs_12 : Cond.selects "LogDisk" ⟨"LogDisk", "termAt", "(I)I"⟩ ⟨"LogDisk", "termAt", "(I)I"⟩ ∈ gTb := gTb_in 12 rfl rfl
theorem gs_13 : Cond.selects "LogDisk" ⟨"LogDisk", "isInLog", "(I)Z"⟩ ⟨"LogDisk", "isInLog", "(I)Z"⟩ ∈ gTb := gTb_in 13 rfl rfl
theorem gs_14 : Cond.selects "LogDisk" ⟨"LogDisk", "needsNewSegment", "()Z"⟩ ⟨"LogDisk", "needsNewSegment", "()Z"⟩ ∈ gTb := gTb_in 14 rfl rfl
theorem gs_15 : Cond.selects "LogDisk" ⟨"LogDisk", "lowestFreeFile", "()I"⟩ ⟨"LogDisk", "lowestFreeFile", "()I"⟩ ∈ gTb := gTb_in 15 rfl rfl
theorem gs_16 : Cond.selects "LogDisk" ⟨"LogDisk", "openSegment", "(I)V"⟩ ⟨"LogDisk", "openSegment", "(I)V"⟩ ∈ gTb := gTb_in 16 rfl rfl
theorem gs_17 : Cond.selects "LogDisk" ⟨"LogDisk", "writeEntry", "(IIII)V"⟩ ⟨"LogDisk", "writeEntry", "(IIII)V"⟩ ∈ gTb := gTb_in 17 rfl rfl
theorem gs_18 : Cond.selects "LogDisk" ⟨"LogDisk", "moveBase", "(IIII)V"⟩ ⟨"LogDisk", "moveBase", "(IIII)V"⟩ ∈ gTb := gTb_in 18 rfl rfl
theorem gs_19 : Cond.selects "LogDisk" ⟨"LogDisk", "dropSegments", "()V"⟩ ⟨"LogDisk", "dropSegments", "()V"⟩ ∈ gTb := gTb_in 19 rfl rfl
theorem gs_20 : Cond.selects "LogDisk" ⟨"LogDisk", "snapshotBytes", "()I"⟩ ⟨"LogDisk", "snapshotBytes", "()I"⟩ ∈ gTb := gTb_in 20 rfl rfl
theorem gs_21 : Cond.selects "LogDiskModel" ⟨"LogDiskModel", "fail", "(I)I"⟩ ⟨"LogDiskModel", "fail", "(I)I"⟩ ∈ gTb := gTb_in 21 rfl rfl
theorem gs_22 : Cond.selects "LogDiskModel" ⟨"LogDiskModel", "hasRoomAnew", "(II)Z"⟩ ⟨"LogDiskModel", "hasRoomAnew", "(II)Z"⟩ ∈ gTb := gTb_in 22 rfl rfl
theorem gs_23 : Cond.selects "LogDiskModel" ⟨"LogDiskModel", "pagesUsed", "()I"⟩ ⟨"LogDiskModel", "pagesUsed", "()I"⟩ ∈ gTb := gTb_in 23 rfl rfl
theorem gs_24 : Cond.selects "LogDiskModel" ⟨"LogDiskModel", "cut", "(II)V"⟩ ⟨"LogDiskModel", "cut", "(II)V"⟩ ∈ gTb := gTb_in 24 rfl rfl
theorem gs_25 : Cond.selects "LogDiskModel" ⟨"LogDiskModel", "space", "(I)I"⟩ ⟨"LogDiskModel", "space", "(I)I"⟩ ∈ gTb := gTb_in 25 rfl rfl
theorem gs_26 : Cond.selects "LogDiskModel" ⟨"LogDiskModel", "payload", "(I)I"⟩ ⟨"LogDiskModel", "payload", "(I)I"⟩ ∈ gTb := gTb_in 26 rfl rfl
theorem gs_27 : Cond.selects "LogDiskModel" ⟨"LogDiskModel", "make", "(IIII)I"⟩ ⟨"LogDiskModel", "make", "(IIII)I"⟩ ∈ gTb := gTb_in 27 rfl rfl
theorem gs_28 : Cond.selects "LogDiskModel" ⟨"LogDiskModel", "put", "(II)V"⟩ ⟨"LogDiskModel", "put", "(II)V"⟩ ∈ gTb := gTb_in 28 rfl rfl
theorem gs_29 : Cond.selects "LogDiskModel" ⟨"LogDiskModel", "termOf", "(I)I"⟩ ⟨"LogDiskModel", "termOf", "(I)I"⟩ ∈ gTb := gTb_in 29 rfl rfl
theorem gs_30 : Cond.selects "LogDiskModel" ⟨"LogDiskModel", "freeFile", "()I"⟩ ⟨"LogDiskModel", "freeFile", "()I"⟩ ∈ gTb := gTb_in 30 rfl rfl
theorem gs_31 : Cond.selects "LogDiskModel" ⟨"LogDiskModel", "hasRoom", "(II)Z"⟩ ⟨"LogDiskModel", "hasRoom", "(II)Z"⟩ ∈ gTb := gTb_in 31 rfl rfl
theorem gs_32 : Cond.selects "LogDiskModel" ⟨"LogDiskModel", "needed", "(II)I"⟩ ⟨"LogDiskModel", "needed", "(II)I"⟩ ∈ gTb := gTb_in 32 rfl rfl
theorem gs_33 : Cond.selects "LogDiskModel" ⟨"LogDiskModel", "fill", "(II)V"⟩ ⟨"LogDiskModel", "fill", "(II)V"⟩ ∈ gTb := gTb_in 33 rfl rfl
theorem gs_34 : Cond.selects "LogDiskModel" ⟨"LogDiskModel", "firstOf", "(I)I"⟩ ⟨"LogDiskModel", "firstOf", "(I)I"⟩ ∈ gTb := gTb_in 34 rfl rfl
theorem gs_35 : Cond.selects "LogDiskModel" ⟨"LogDiskModel", "remove", "(I)V"⟩ ⟨"LogDiskModel", "remove", "(I)V"⟩ ∈ gTb := gTb_in 35 rfl rfl
theorem gs_36 : Cond.selects "LogDiskModel" ⟨"LogDiskModel", "placeIn", "(II)I"⟩ ⟨"LogDiskModel", "placeIn", "(II)I"⟩ ∈ gTb := gTb_in 36 rfl rfl
theorem gs_37 : Cond.selects "LogDiskModel" ⟨"LogDiskModel", "write", "(IIII)Z"⟩ ⟨"LogDiskModel", "write", "(IIII)Z"⟩ ∈ gTb := gTb_in 37 rfl rfl
theorem gs_38 : Cond.selects "LogDiskModel" ⟨"LogDiskModel", "settle", "(I)V"⟩ ⟨"LogDiskModel", "settle", "(I)V"⟩ ∈ gTb := gTb_in 38 rfl rfl
theorem gs_39 : Cond.selects "LogDiskModel" ⟨"LogDiskModel", "copy", "(II)V"⟩ ⟨"LogDiskModel", "copy", "(II)V"⟩ ∈ gTb := gTb_in 39 rfl rfl
theorem gs_40 : Cond.selects "LogDiskModel" ⟨"LogDiskModel", "rebase", "(II)V"⟩ ⟨"LogDiskModel", "rebase", "(II)V"⟩ ∈ gTb := gTb_in 40 rfl rfl
theorem gs_41 : Cond.selects "LogDiskModel" ⟨"LogDiskModel", "lastOf", "(I)I"⟩ ⟨"LogDiskModel", "lastOf", "(I)I"⟩ ∈ gTb := gTb_in 41 rfl rfl
theorem gs_42 : Cond.selects "LogDiskModel" ⟨"LogDiskModel", "crashFile", "(II)V"⟩ ⟨"LogDiskModel", "crashFile", "(II)V"⟩ ∈ gTb := gTb_in 42 rfl rfl
theorem gs_43 : Cond.selects "LogDiskModel" ⟨"LogDiskModel", "findSlots", "()V"⟩ ⟨"LogDiskModel", "findSlots", "()V"⟩ ∈ gTb := gTb_in 43 rfl rfl
theorem gs_44 : Cond.selects "LogDiskModel" ⟨"LogDiskModel", "whole", "(I)I"⟩ ⟨"LogDiskModel", "whole", "(I)I"⟩ ∈ gTb := gTb_in 44 rfl rfl
theorem gs_45 : Cond.selects "LogDiskModel" ⟨"LogDiskModel", "findSnapshot", "()V"⟩ ⟨"LogDiskModel", "findSnapshot", "()V"⟩ ∈ gTb := gTb_in 45 rfl rfl
theorem gs_46 : Cond.selects "LogDiskModel" ⟨"LogDiskModel", "firstSegment", "()I"⟩ ⟨"LogDiskModel", "firstSegment", "()I"⟩ ∈ gTb := gTb_in 46 rfl rfl
theorem gs_47 : Cond.selects "LogDiskModel" ⟨"LogDiskModel", "join", "(I)V"⟩ ⟨"LogDiskModel", "join", "(I)V"⟩ ∈ gTb := gTb_in 47 rfl rfl
theorem gs_48 : Cond.selects "LogDiskModel" ⟨"LogDiskModel", "nextSegment", "()I"⟩ ⟨"LogDiskModel", "nextSegment", "()I"⟩ ∈ gTb := gTb_in 48 rfl rfl
theorem gs_49 : Cond.selects "LogDiskModel" ⟨"LogDiskModel", "isJoined", "(I)Z"⟩ ⟨"LogDiskModel", "isJoined", "(I)Z"⟩ ∈ gTb := gTb_in 49 rfl rfl
theorem gs_50 : Cond.selects "LogDiskModel" ⟨"LogDiskModel", "fileOf", "(I)I"⟩ ⟨"LogDiskModel", "fileOf", "(I)I"⟩ ∈ gTb := gTb_in 50 rfl rfl
theorem gs_51 : Cond.selects "LogDiskModel" ⟨"LogDiskModel", "frameAt", "(II)I"⟩ ⟨"LogDiskModel", "frameAt", "(II)I"⟩ ∈ gTb := gTb_in 51 rfl rfl
theorem gs_52 : Cond.selects "LogDiskModel" ⟨"LogDiskModel", "sumOf", "(I)I"⟩ ⟨"LogDiskModel", "sumOf", "(I)I"⟩ ∈ gTb := gTb_in 52 rfl rfl
theorem gs_53 : Cond.selects "LogDiskModel" ⟨"LogDiskModel", "payloadAt", "(II)I"⟩ ⟨"LogDiskModel", "payloadAt", "(II)I"⟩ ∈ gTb := gTb_in 53 rfl rfl
theorem gw_0 : (Jvm.Cond.initialized "LogDiskLaw") ∈ gTb := gT_1 0 rfl rfl
theorem gw_1 : (Jvm.Cond.initialized "LogDisk") ∈ gTb := gT_1 1 rfl rfl
theorem gw_2 : (Jvm.Cond.initialized "LogDisk$Tape") ∈ gTb := gT_1 2 rfl rfl
theorem gw_3 : (Jvm.Cond.initialized "LogDisk$Frame") ∈ gTb := gT_1 3 rfl rfl
theorem gw_4 : (Jvm.Cond.initialized "LogDisk$Vote") ∈ gTb := gT_1 4 rfl rfl
theorem gw_5 : (Jvm.Cond.initialized "LogDisk$Snapshot") ∈ gTb := gT_1 5 rfl rfl
theorem gw_6 : (Jvm.Cond.initialized "LogDisk$Segments") ∈ gTb := gT_1 6 rfl rfl
theorem gw_7 : (Jvm.Cond.initialized "LogDisk$Entries") ∈ gTb := gT_1 7 rfl rfl
theorem gw_8 : (Jvm.Cond.initialized "java/lang/Math") ∈ gTb := gT_1 8 rfl rfl
theorem gw_9 : (Jvm.Cond.initialized "LogDisk$Pages") ∈ gTb := gT_1 9 rfl rfl
theorem gw_10 : (Jvm.Cond.initialized "LogDisk$DiskFile") ∈ gTb := gT_1 10 rfl rfl
theorem gw_11 : (Jvm.Cond.initialized "LogDisk$Content") ∈ gTb := gT_1 11 rfl rfl
theorem gw_12 : (Jvm.Cond.initialized "LogDiskModel") ∈ gTb := gT_1 12 rfl rfl
theorem gw_13 : (Jvm.Cond.initialized "java/lang/Throwable") ∈ gTb := gT_1 13 rfl rfl
theorem gw_14 : (Jvm.Cond.initialized "java/lang/Exception") ∈ gTb := gT_1 14 rfl rfl
theorem gw_15 : (Jvm.Cond.initialized "java/lang/RuntimeException") ∈ gTb := gT_1 15 rfl rfl
theorem gw_16 : (Jvm.Cond.initialized "java/lang/IllegalArgumentException") ∈ gTb := gT_1 16 rfl rfl
theorem gw_17 : (Jvm.Cond.initialized "java/lang/IllegalStateException") ∈ gTb := gT_1 17 rfl rfl
theorem gw_18 : (Jvm.Cond.initialized "java/lang/UnsupportedOperationException") ∈ gTb := gT_1 18 rfl rfl
theorem gw_19 : (Jvm.Cond.initialized "java/lang/System") ∈ gTb := gT_1 19 rfl rfl
theorem gw_20 : (Jvm.Cond.initialized "java/lang/IndexOutOfBoundsException") ∈ gTb := gT_1 20 rfl rfl
theorem gw_21 : (Jvm.Cond.initialized "java/util/NoSuchElementException") ∈ gTb := gT_1 21 rfl rfl
theorem gw_22 : (Jvm.Cond.classLink "LogDiskLaw" (8 : Nat) "LogDisk") ∈ gTb := gT_1 22 rfl rfl
theorem gw_23 : (Jvm.Cond.instantiable "LogDisk" (12 : Nat)) ∈ gTb := gT_1 23 rfl rfl
theorem gw_24 : (Jvm.Cond.methodLink "LogDiskLaw" (72 : Nat) ({ cls := "LogDisk", name := "<init>", desc := "(II)V" } : Jvm.MethodName)) ∈ gTb := gT_1 24 rfl rfl
theorem gw_25 : (Jvm.Cond.instanceMethod ({ cls := "LogDisk", name := "<init>", desc := "(II)V" } : Jvm.MethodName)) ∈ gTb := gT_1 25 rfl rfl
theorem gw_26 : (Jvm.Cond.code ({ cls := "LogDisk", name := "<init>", desc := "(II)V" } : Jvm.MethodName) prog_1_method_1_code (6 : Nat) (Option.none : Option Jvm.ClassFile.FieldType)) ∈ gTb := gT_1 26 rfl rfl
theorem gw_27 : (Jvm.Cond.methodLink "LogDisk" (3 : Nat) ({ cls := "java/lang/Object", name := "<init>", desc := "()V" } : Jvm.MethodName)) ∈ gTb := gT_1 27 rfl rfl
theorem gw_28 : (Jvm.Cond.instanceMethod ({ cls := "java/lang/Object", name := "<init>", desc := "()V" } : Jvm.MethodName)) ∈ gTb := gT_1 28 rfl rfl
theorem gw_29 : (Jvm.Cond.code ({ cls := "java/lang/Object", name := "<init>", desc := "()V" } : Jvm.MethodName) object_method_1_code (1 : Nat) (Option.none : Option Jvm.ClassFile.FieldType)) ∈ gTb := gT_1 29 rfl rfl
theorem gw_30 : (Jvm.Cond.classLink "LogDisk" (9 : Nat) "LogDisk$DiskFile") ∈ gTb := gT_1 30 rfl rfl
theorem gw_32 : (Jvm.Cond.classLink "LogDisk" (19 : Nat) "LogDisk$Tape") ∈ gTb := gT_1 32 rfl rfl
theorem gw_33 : (Jvm.Cond.instantiable "LogDisk$Tape" (2 : Nat)) ∈ gTb := gT_1 33 rfl rfl
theorem gw_35 : (Jvm.Cond.instanceMethod ({ cls := "LogDisk$Tape", name := "<init>", desc := "()V" } : Jvm.MethodName)) ∈ gTb := gT_1 35 rfl rfl
theorem gw_36 : (Jvm.Cond.code ({ cls := "LogDisk$Tape", name := "<init>", desc := "()V" } : Jvm.MethodName) prog_9_method_1_code (1 : Nat) (Option.none : Option Jvm.ClassFile.FieldType)) ∈ gTb := gT_1 36 rfl rfl
theorem gw_37 : (Jvm.Cond.methodLink "LogDisk$Tape" (3 : Nat) ({ cls := "java/lang/Object", name := "<init>", desc := "()V" } : Jvm.MethodName)) ∈ gTb := gT_1 37 rfl rfl
theorem gw_38 : (Jvm.Cond.fieldLink "LogDisk$Tape" (9 : Nat) "LogDisk$Tape" "bytes" "[B") ∈ gTb := gT_1 38 rfl rfl
theorem gw_39 : (Jvm.Cond.fieldLink "LogDisk" (104 : Nat) "LogDisk$Tape" "bytes" "[B") ∈ gTb := gT_1 39 rfl rfl
theorem gw_40 : (Jvm.Cond.fieldLink "LogDisk$Tape" (15 : Nat) "LogDisk$Tape" "size" "I") ∈ gTb := gT_1 40 rfl rfl
theorem gw_41 : (Jvm.Cond.fieldLink "LogDisk" (96 : Nat) "LogDisk$Tape" "size" "I") ∈ gTb := gT_1 41 rfl rfl
theorem gw_42 : (Jvm.Cond.laysFinal "LogDisk$Tape" "LogDisk$Tape" "bytes" "[B") ∈ gTb := gT_1 42 rfl rfl
theorem gw_44 : (Jvm.Cond.lays "LogDisk$Tape" "LogDisk$Tape" "size" "I") ∈ gTb := gT_1 44 rfl rfl
theorem gw_47 : (Jvm.Cond.arrayClass Jvm.ClassFile.FieldType.int) ∈ gTb := gT_1 47 rfl rfl
theorem gw_48 : (Jvm.Cond.arrayClass Jvm.ClassFile.FieldType.byte) ∈ gTb := gT_1 48 rfl rfl
theorem gw_49 : (Jvm.Cond.classLink "LogDisk" (26 : Nat) "LogDisk$Frame") ∈ gTb := gT_1 49 rfl rfl
theorem gw_50 : (Jvm.Cond.instantiable "LogDisk$Frame" (2 : Nat)) ∈ gTb := gT_1 50 rfl rfl
theorem gw_52 : (Jvm.Cond.instanceMethod ({ cls := "LogDisk$Frame", name := "<init>", desc := "()V" } : Jvm.MethodName)) ∈ gTb := gT_1 52 rfl rfl
theorem gw_53 : (Jvm.Cond.code ({ cls := "LogDisk$Frame", name := "<init>", desc := "()V" } : Jvm.MethodName) prog_5_method_1_code (1 : Nat) (Option.none : Option Jvm.ClassFile.FieldType)) ∈ gTb := gT_1 53 rfl rfl
theorem gw_54 : (Jvm.Cond.methodLink "LogDisk$Frame" (3 : Nat) ({ cls := "java/lang/Object", name := "<init>", desc := "()V" } : Jvm.MethodName)) ∈ gTb := gT_1 54 rfl rfl
theorem gw_55 : (Jvm.Cond.fieldLink "LogDisk$Frame" (9 : Nat) "LogDisk$Frame" "bytes" "[B") ∈ gTb := gT_1 55 rfl rfl
theorem gw_56 : (Jvm.Cond.fieldLink "LogDisk" (309 : Nat) "LogDisk$Frame" "bytes" "[B") ∈ gTb := gT_1 56 rfl rfl
theorem gw_57 : (Jvm.Cond.fieldLink "LogDisk$Frame" (15 : Nat) "LogDisk$Frame" "size" "I") ∈ gTb := gT_1 57 rfl rfl
theorem gw_58 : (Jvm.Cond.fieldLink "LogDisk" (310 : Nat) "LogDisk$Frame" "size" "I") ∈ gTb := gT_1 58 rfl rfl
theorem gw_59 : (Jvm.Cond.laysFinal "LogDisk$Frame" "LogDisk$Frame" "bytes" "[B") ∈ gTb := gT_1 59 rfl rfl
theorem gw_61 : (Jvm.Cond.lays "LogDisk$Frame" "LogDisk$Frame" "size" "I") ∈ gTb := gT_1 61 rfl rfl
theorem gw_64 : (Jvm.Cond.classLink "LogDisk" (33 : Nat) "LogDisk$Vote") ∈ gTb := gT_1 64 rfl rfl
theorem gw_65 : (Jvm.Cond.instantiable "LogDisk$Vote" (5 : Nat)) ∈ gTb := gT_1 65 rfl rfl
theorem gw_67 : (Jvm.Cond.instanceMethod ({ cls := "LogDisk$Vote", name := "<init>", desc := "()V" } : Jvm.MethodName)) ∈ gTb := gT_1 67 rfl rfl
theorem gw_68 : (Jvm.Cond.code ({ cls := "LogDisk$Vote", name := "<init>", desc := "()V" } : Jvm.MethodName) prog_10_method_1_code (1 : Nat) (Option.none : Option Jvm.ClassFile.FieldType)) ∈ gTb := gT_1 68 rfl rfl
theorem gw_69 : (Jvm.Cond.methodLink "LogDisk$Vote" (3 : Nat) ({ cls := "java/lang/Object", name := "<init>", desc := "()V" } : Jvm.MethodName)) ∈ gTb := gT_1 69 rfl rfl
theorem gw_70 : (Jvm.Cond.fieldLink "LogDisk$Vote" (22 : Nat) "LogDisk$Vote" "term" "I") ∈ gTb := gT_1 70 rfl rfl
theorem gw_71 : (Jvm.Cond.fieldLink "LogDisk" (108 : Nat) "LogDisk$Vote" "term" "I") ∈ gTb := gT_1 71 rfl rfl
theorem gw_72 : (Jvm.Cond.fieldLink "LogDisk$Vote" (9 : Nat) "LogDisk$Vote" "voted" "I") ∈ gTb := gT_1 72 rfl rfl
theorem gw_73 : (Jvm.Cond.fieldLink "LogDisk" (247 : Nat) "LogDisk$Vote" "voted" "I") ∈ gTb := gT_1 73 rfl rfl
theorem gw_74 : (Jvm.Cond.fieldLink "LogDisk$Vote" (18 : Nat) "LogDisk$Vote" "times" "J") ∈ gTb := gT_1 74 rfl rfl
theorem gw_75 : (Jvm.Cond.fieldLink "LogDisk" (129 : Nat) "LogDisk$Vote" "times" "J") ∈ gTb := gT_1 75 rfl rfl
theorem gw_76 : (Jvm.Cond.fieldLink "LogDisk$Vote" (15 : Nat) "LogDisk$Vote" "file" "I") ∈ gTb := gT_1 76 rfl rfl
theorem gw_77 : (Jvm.Cond.fieldLink "LogDisk" (308 : Nat) "LogDisk$Vote" "file" "I") ∈ gTb := gT_1 77 rfl rfl
theorem gw_78 : (Jvm.Cond.fieldLink "LogDisk$Vote" (29 : Nat) "LogDisk$Vote" "fresh" "Z") ∈ gTb := gT_1 78 rfl rfl
theorem gw_79 : (Jvm.Cond.fieldLink "LogDisk" (137 : Nat) "LogDisk$Vote" "fresh" "Z") ∈ gTb := gT_1 79 rfl rfl
theorem gw_80 : (Jvm.Cond.lays "LogDisk$Vote" "LogDisk$Vote" "term" "I") ∈ gTb := gT_1 80 rfl rfl
theorem gw_82 : (Jvm.Cond.lays "LogDisk$Vote" "LogDisk$Vote" "voted" "I") ∈ gTb := gT_1 82 rfl rfl
theorem gw_84 : (Jvm.Cond.lays "LogDisk$Vote" "LogDisk$Vote" "times" "J") ∈ gTb := gT_1 84 rfl rfl
theorem gw_86 : (Jvm.Cond.lays "LogDisk$Vote" "LogDisk$Vote" "file" "I") ∈ gTb := gT_1 86 rfl rfl
theorem gw_88 : (Jvm.Cond.lays "LogDisk$Vote" "LogDisk$Vote" "fresh" "Z") ∈ gTb := gT_1 88 rfl rfl
theorem gw_91 : (Jvm.Cond.classLink "LogDisk" (40 : Nat) "LogDisk$Snapshot") ∈ gTb := gT_1 91 rfl rfl
theorem gw_92 : (Jvm.Cond.instantiable "LogDisk$Snapshot" (4 : Nat)) ∈ gTb := gT_1 92 rfl rfl
theorem gw_94 : (Jvm.Cond.instanceMethod ({ cls := "LogDisk$Snapshot", name := "<init>", desc := "()V" } : Jvm.MethodName)) ∈ gTb := gT_1 94 rfl rfl
theorem gw_95 : (Jvm.Cond.code ({ cls := "LogDisk$Snapshot", name := "<init>", desc := "()V" } : Jvm.MethodName) prog_8_method_1_code (1 : Nat) (Option.none : Option Jvm.ClassFile.FieldType)) ∈ gTb := gT_1 95 rfl rfl
theorem gw_96 : (Jvm.Cond.methodLink "LogDisk$Snapshot" (3 : Nat) ({ cls := "java/lang/Object", name := "<init>", desc := "()V" } : Jvm.MethodName)) ∈ gTb := gT_1 96 rfl rfl
theorem gw_97 : (Jvm.Cond.fieldLink "LogDisk$Snapshot" (9 : Nat) "LogDisk$Snapshot" "file" "I") ∈ gTb := gT_1 97 rfl rfl
theorem gw_98 : (Jvm.Cond.fieldLink "LogDisk" (278 : Nat) "LogDisk$Snapshot" "file" "I") ∈ gTb := gT_1 98 rfl rfl
theorem gw_99 : (Jvm.Cond.fieldLink "LogDisk$Snapshot" (15 : Nat) "LogDisk$Snapshot" "base" "I") ∈ gTb := gT_1 99 rfl rfl
theorem gw_100 : (Jvm.Cond.fieldLink "LogDisk" (161 : Nat) "LogDisk$Snapshot" "base" "I") ∈ gTb := gT_1 100 rfl rfl
theorem gw_101 : (Jvm.Cond.fieldLink "LogDisk$Snapshot" (18 : Nat) "LogDisk$Snapshot" "term" "I") ∈ gTb := gT_1 101 rfl rfl
theorem gw_102 : (Jvm.Cond.fieldLink "LogDisk" (250 : Nat) "LogDisk$Snapshot" "term" "I") ∈ gTb := gT_1 102 rfl rfl
theorem gw_103 : (Jvm.Cond.fieldLink "LogDisk" (86 : Nat) "LogDisk$Snapshot" "code" "I") ∈ gTb := gT_1 103 rfl rfl
theorem gw_104 : (Jvm.Cond.fieldLink "LogDisk$Snapshot" (21 : Nat) "LogDisk$Snapshot" "code" "I") ∈ gTb := gT_1 104 rfl rfl
theorem gw_105 : (Jvm.Cond.lays "LogDisk$Snapshot" "LogDisk$Snapshot" "file" "I") ∈ gTb := gT_1 105 rfl rfl
theorem gw_107 : (Jvm.Cond.lays "LogDisk$Snapshot" "LogDisk$Snapshot" "base" "I") ∈ gTb := gT_1 107 rfl rfl
theorem gw_109 : (Jvm.Cond.lays "LogDisk$Snapshot" "LogDisk$Snapshot" "term" "I") ∈ gTb := gT_1 109 rfl rfl
theorem gw_111 : (Jvm.Cond.lays "LogDisk$Snapshot" "LogDisk$Snapshot" "code" "I") ∈ gTb := gT_1 111 rfl rfl
theorem gw_114 : (Jvm.Cond.classLink "LogDisk" (47 : Nat) "LogDisk$Segments") ∈ gTb := gT_1 114 rfl rfl
theorem gw_115 : (Jvm.Cond.instantiable "LogDisk$Segments" (3 : Nat)) ∈ gTb := gT_1 115 rfl rfl
theorem gw_117 : (Jvm.Cond.instanceMethod ({ cls := "LogDisk$Segments", name := "<init>", desc := "()V" } : Jvm.MethodName)) ∈ gTb := gT_1 117 rfl rfl
theorem gw_118 : (Jvm.Cond.code ({ cls := "LogDisk$Segments", name := "<init>", desc := "()V" } : Jvm.MethodName) prog_7_method_1_code (1 : Nat) (Option.none : Option Jvm.ClassFile.FieldType)) ∈ gTb := gT_1 118 rfl rfl
theorem gw_119 : (Jvm.Cond.methodLink "LogDisk$Segments" (3 : Nat) ({ cls := "java/lang/Object", name := "<init>", desc := "()V" } : Jvm.MethodName)) ∈ gTb := gT_1 119 rfl rfl
theorem gw_120 : (Jvm.Cond.fieldLink "LogDisk$Segments" (9 : Nat) "LogDisk$Segments" "file" "[I") ∈ gTb := gT_1 120 rfl rfl
theorem gw_121 : (Jvm.Cond.fieldLink "LogDisk" (200 : Nat) "LogDisk$Segments" "file" "[I") ∈ gTb := gT_1 121 rfl rfl
theorem gw_122 : (Jvm.Cond.fieldLink "LogDisk$Segments" (15 : Nat) "LogDisk$Segments" "first" "[I") ∈ gTb := gT_1 122 rfl rfl
theorem gw_123 : (Jvm.Cond.fieldLink "LogDisk" (197 : Nat) "LogDisk$Segments" "first" "[I") ∈ gTb := gT_1 123 rfl rfl
theorem gw_124 : (Jvm.Cond.fieldLink "LogDisk$Segments" (18 : Nat) "LogDisk$Segments" "count" "I") ∈ gTb := gT_1 124 rfl rfl
theorem gw_125 : (Jvm.Cond.fieldLink "LogDisk" (194 : Nat) "LogDisk$Segments" "count" "I") ∈ gTb := gT_1 125 rfl rfl
theorem gw_126 : (Jvm.Cond.laysFinal "LogDisk$Segments" "LogDisk$Segments" "file" "[I") ∈ gTb := gT_1 126 rfl rfl
theorem gw_128 : (Jvm.Cond.laysFinal "LogDisk$Segments" "LogDisk$Segments" "first" "[I") ∈ gTb := gT_1 128 rfl rfl
theorem gw_130 : (Jvm.Cond.lays "LogDisk$Segments" "LogDisk$Segments" "count" "I") ∈ gTb := gT_1 130 rfl rfl
theorem gw_133 : (Jvm.Cond.classLink "LogDisk" (54 : Nat) "LogDisk$Entries") ∈ gTb := gT_1 133 rfl rfl
theorem gw_134 : (Jvm.Cond.instantiable "LogDisk$Entries" (5 : Nat)) ∈ gTb := gT_1 134 rfl rfl
theorem gw_136 : (Jvm.Cond.instanceMethod ({ cls := "LogDisk$Entries", name := "<init>", desc := "()V" } : Jvm.MethodName)) ∈ gTb := gT_1 136 rfl rfl
theorem gw_137 : (Jvm.Cond.code ({ cls := "LogDisk$Entries", name := "<init>", desc := "()V" } : Jvm.MethodName) prog_4_method_1_code (1 : Nat) (Option.none : Option Jvm.ClassFile.FieldType)) ∈ gTb := gT_1 137 rfl rfl
theorem gw_138 : (Jvm.Cond.methodLink "LogDisk$Entries" (3 : Nat) ({ cls := "java/lang/Object", name := "<init>", desc := "()V" } : Jvm.MethodName)) ∈ gTb := gT_1 138 rfl rfl
theorem gw_139 : (Jvm.Cond.fieldLink "LogDisk$Entries" (11 : Nat) "LogDisk$Entries" "file" "[I") ∈ gTb := gT_1 139 rfl rfl
theorem gw_140 : (Jvm.Cond.fieldLink "LogDisk" (209 : Nat) "LogDisk$Entries" "file" "[I") ∈ gTb := gT_1 140 rfl rfl
theorem gw_141 : (Jvm.Cond.fieldLink "LogDisk$Entries" (15 : Nat) "LogDisk$Entries" "start" "[I") ∈ gTb := gT_1 141 rfl rfl
theorem gw_142 : (Jvm.Cond.fieldLink "LogDisk" (210 : Nat) "LogDisk$Entries" "start" "[I") ∈ gTb := gT_1 142 rfl rfl
theorem gw_143 : (Jvm.Cond.fieldLink "LogDisk$Entries" (18 : Nat) "LogDisk$Entries" "term" "[I") ∈ gTb := gT_1 143 rfl rfl
theorem gw_144 : (Jvm.Cond.fieldLink "LogDisk" (261 : Nat) "LogDisk$Entries" "term" "[I") ∈ gTb := gT_1 144 rfl rfl
theorem gw_145 : (Jvm.Cond.fieldLink "LogDisk$Entries" (21 : Nat) "LogDisk$Entries" "kind" "[I") ∈ gTb := gT_1 145 rfl rfl
theorem gw_146 : (Jvm.Cond.fieldLink "LogDisk" (263 : Nat) "LogDisk$Entries" "kind" "[I") ∈ gTb := gT_1 146 rfl rfl
theorem gw_147 : (Jvm.Cond.fieldLink "LogDisk$Entries" (24 : Nat) "LogDisk$Entries" "bytes" "[I") ∈ gTb := gT_1 147 rfl rfl
theorem gw_148 : (Jvm.Cond.fieldLink "LogDisk" (266 : Nat) "LogDisk$Entries" "bytes" "[I") ∈ gTb := gT_1 148 rfl rfl
theorem gw_149 : (Jvm.Cond.laysFinal "LogDisk$Entries" "LogDisk$Entries" "file" "[I") ∈ gTb := gT_1 149 rfl rfl
theorem gw_151 : (Jvm.Cond.laysFinal "LogDisk$Entries" "LogDisk$Entries" "start" "[I") ∈ gTb := gT_1 151 rfl rfl
theorem gw_153 : (Jvm.Cond.laysFinal "LogDisk$Entries" "LogDisk$Entries" "term" "[I") ∈ gTb := gT_1 153 rfl rfl
theorem gw_155 : (Jvm.Cond.laysFinal "LogDisk$Entries" "LogDisk$Entries" "kind" "[I") ∈ gTb := gT_1 155 rfl rfl
theorem gw_157 : (Jvm.Cond.laysFinal "LogDisk$Entries" "LogDisk$Entries" "bytes" "[I") ∈ gTb := gT_1 157 rfl rfl
theorem gw_160 : (Jvm.Cond.methodLink "LogDisk" (61 : Nat) ({ cls := "java/lang/Math", name := "min", desc := "(II)I" } : Jvm.MethodName)) ∈ gTb := gT_1 160 rfl rfl
theorem gw_161 : (Jvm.Cond.static ({ cls := "java/lang/Math", name := "min", desc := "(II)I" } : Jvm.MethodName)) ∈ gTb := gT_1 161 rfl rfl
theorem gw_162 : (Jvm.Cond.code ({ cls := "java/lang/Math", name := "min", desc := "(II)I" } : Jvm.MethodName) prog_17_method_69_code (2 : Nat) (Option.some Jvm.ClassFile.FieldType.int)) ∈ gTb := gT_1 162 rfl rfl
theorem gw_163 : (Jvm.Cond.methodLink "LogDisk" (67 : Nat) ({ cls := "java/lang/Math", name := "max", desc := "(II)I" } : Jvm.MethodName)) ∈ gTb := gT_1 163 rfl rfl
theorem gw_164 : (Jvm.Cond.static ({ cls := "java/lang/Math", name := "max", desc := "(II)I" } : Jvm.MethodName)) ∈ gTb := gT_1 164 rfl rfl
theorem gw_165 : (Jvm.Cond.code ({ cls := "java/lang/Math", name := "max", desc := "(II)I" } : Jvm.MethodName) prog_17_method_65_code (2 : Nat) (Option.some Jvm.ClassFile.FieldType.int)) ∈ gTb := gT_1 165 rfl rfl
theorem gw_166 : (Jvm.Cond.classLink "LogDisk" (70 : Nat) "LogDisk$Pages") ∈ gTb := gT_1 166 rfl rfl
theorem gw_167 : (Jvm.Cond.instantiable "LogDisk$Pages" (4 : Nat)) ∈ gTb := gT_1 167 rfl rfl
theorem gw_168 : (Jvm.Cond.methodLink "LogDisk" (72 : Nat) ({ cls := "LogDisk$Pages", name := "<init>", desc := "(I)V" } : Jvm.MethodName)) ∈ gTb := gT_1 168 rfl rfl
theorem gw_169 : (Jvm.Cond.instanceMethod ({ cls := "LogDisk$Pages", name := "<init>", desc := "(I)V" } : Jvm.MethodName)) ∈ gTb := gT_1 169 rfl rfl
theorem gw_170 : (Jvm.Cond.code ({ cls := "LogDisk$Pages", name := "<init>", desc := "(I)V" } : Jvm.MethodName) prog_6_method_1_code (3 : Nat) (Option.none : Option Jvm.ClassFile.FieldType)) ∈ gTb := gT_1 170 rfl rfl
theorem gw_171 : (Jvm.Cond.methodLink "LogDisk$Pages" (3 : Nat) ({ cls := "java/lang/Object", name := "<init>", desc := "()V" } : Jvm.MethodName)) ∈ gTb := gT_1 171 rfl rfl
theorem gw_172 : (Jvm.Cond.fieldLink "LogDisk$Pages" (9 : Nat) "LogDisk$Pages" "bytes" "[B") ∈ gTb := gT_1 172 rfl rfl
theorem gw_173 : (Jvm.Cond.fieldLink "LogDisk$DiskFile" (69 : Nat) "LogDisk$Pages" "bytes" "[B") ∈ gTb := gT_1 173 rfl rfl
theorem gw_174 : (Jvm.Cond.fieldLink "LogDisk$Pages" (15 : Nat) "LogDisk$Pages" "owners" "[I") ∈ gTb := gT_1 174 rfl rfl
theorem gw_175 : (Jvm.Cond.fieldLink "LogDisk$Pages" (19 : Nat) "LogDisk$Pages" "unused" "[I") ∈ gTb := gT_1 175 rfl rfl
theorem gw_176 : (Jvm.Cond.fieldLink "LogDisk$Pages" (22 : Nat) "LogDisk$Pages" "unusedCount" "I") ∈ gTb := gT_1 176 rfl rfl
theorem gw_177 : (Jvm.Cond.fieldLink "LogDisk$DiskFile" (47 : Nat) "LogDisk$Pages" "unusedCount" "I") ∈ gTb := gT_1 177 rfl rfl
theorem gw_178 : (Jvm.Cond.laysFinal "LogDisk$Pages" "LogDisk$Pages" "bytes" "[B") ∈ gTb := gT_1 178 rfl rfl
theorem gw_180 : (Jvm.Cond.laysFinal "LogDisk$Pages" "LogDisk$Pages" "owners" "[I") ∈ gTb := gT_1 180 rfl rfl
theorem gw_182 : (Jvm.Cond.laysFinal "LogDisk$Pages" "LogDisk$Pages" "unused" "[I") ∈ gTb := gT_1 182 rfl rfl
theorem gw_184 : (Jvm.Cond.lays "LogDisk$Pages" "LogDisk$Pages" "unusedCount" "I") ∈ gTb := gT_1 184 rfl rfl
theorem gw_187 : (Jvm.Cond.instantiable "LogDisk$DiskFile" (4 : Nat)) ∈ gTb := gT_1 187 rfl rfl
theorem gw_188 : (Jvm.Cond.methodLink "LogDisk" (75 : Nat) ({ cls := "LogDisk$DiskFile", name := "<init>", desc := "(LLogDisk$Pages;I)V" } : Jvm.MethodName)) ∈ gTb := gT_1 188 rfl rfl
theorem gw_189 : (Jvm.Cond.instanceMethod ({ cls := "LogDisk$DiskFile", name := "<init>", desc := "(LLogDisk$Pages;I)V" } : Jvm.MethodName)) ∈ gTb := gT_1 189 rfl rfl
theorem gw_190 : (Jvm.Cond.code ({ cls := "LogDisk$DiskFile", name := "<init>", desc := "(LLogDisk$Pages;I)V" } : Jvm.MethodName) prog_3_method_1_code (3 : Nat) (Option.none : Option Jvm.ClassFile.FieldType)) ∈ gTb := gT_1 190 rfl rfl
theorem gw_191 : (Jvm.Cond.methodLink "LogDisk$DiskFile" (3 : Nat) ({ cls := "java/lang/Object", name := "<init>", desc := "()V" } : Jvm.MethodName)) ∈ gTb := gT_1 191 rfl rfl
theorem gw_192 : (Jvm.Cond.classLink "LogDisk$DiskFile" (15 : Nat) "LogDisk$Content") ∈ gTb := gT_1 192 rfl rfl
theorem gw_193 : (Jvm.Cond.instantiable "LogDisk$Content" (3 : Nat)) ∈ gTb := gT_1 193 rfl rfl
theorem gw_194 : (Jvm.Cond.methodLink "LogDisk$DiskFile" (17 : Nat) ({ cls := "LogDisk$Content", name := "<init>", desc := "(I)V" } : Jvm.MethodName)) ∈ gTb := gT_1 194 rfl rfl
theorem gw_195 : (Jvm.Cond.instanceMethod ({ cls := "LogDisk$Content", name := "<init>", desc := "(I)V" } : Jvm.MethodName)) ∈ gTb := gT_1 195 rfl rfl
theorem gw_196 : (Jvm.Cond.code ({ cls := "LogDisk$Content", name := "<init>", desc := "(I)V" } : Jvm.MethodName) prog_2_method_1_code (2 : Nat) (Option.none : Option Jvm.ClassFile.FieldType)) ∈ gTb := gT_1 196 rfl rfl
theorem gw_197 : (Jvm.Cond.methodLink "LogDisk$Content" (1 : Nat) ({ cls := "java/lang/Object", name := "<init>", desc := "()V" } : Jvm.MethodName)) ∈ gTb := gT_1 197 rfl rfl
theorem gw_198 : (Jvm.Cond.fieldLink "LogDisk$Content" (7 : Nat) "LogDisk$Content" "row" "[I") ∈ gTb := gT_1 198 rfl rfl
theorem gw_199 : (Jvm.Cond.fieldLink "LogDisk$DiskFile" (35 : Nat) "LogDisk$Content" "row" "[I") ∈ gTb := gT_1 199 rfl rfl
theorem gw_200 : (Jvm.Cond.fieldLink "LogDisk$Content" (36 : Nat) "LogDisk$Content" "there" "Z") ∈ gTb := gT_1 200 rfl rfl
theorem gw_201 : (Jvm.Cond.fieldLink "LogDisk$DiskFile" (55 : Nat) "LogDisk$Content" "there" "Z") ∈ gTb := gT_1 201 rfl rfl
theorem gw_202 : (Jvm.Cond.fieldLink "LogDisk" (295 : Nat) "LogDisk$Content" "there" "Z") ∈ gTb := gT_1 202 rfl rfl
theorem gw_203 : (Jvm.Cond.fieldLink "LogDisk$Content" (13 : Nat) "LogDisk$Content" "size" "I") ∈ gTb := gT_1 203 rfl rfl
theorem gw_204 : (Jvm.Cond.fieldLink "LogDisk$DiskFile" (27 : Nat) "LogDisk$Content" "size" "I") ∈ gTb := gT_1 204 rfl rfl
theorem gw_205 : (Jvm.Cond.fieldLink "LogDisk" (286 : Nat) "LogDisk$Content" "size" "I") ∈ gTb := gT_1 205 rfl rfl
theorem gw_206 : (Jvm.Cond.laysFinal "LogDisk$Content" "LogDisk$Content" "row" "[I") ∈ gTb := gT_1 206 rfl rfl
theorem gw_208 : (Jvm.Cond.lays "LogDisk$Content" "LogDisk$Content" "there" "Z") ∈ gTb := gT_1 208 rfl rfl
theorem gw_210 : (Jvm.Cond.lays "LogDisk$Content" "LogDisk$Content" "size" "I") ∈ gTb := gT_1 210 rfl rfl
theorem gw_213 : (Jvm.Cond.fieldLink "LogDisk$DiskFile" (9 : Nat) "LogDisk$DiskFile" "pages" "LLogDisk$Pages;") ∈ gTb := gT_1 213 rfl rfl
theorem gw_214 : (Jvm.Cond.fieldLink "LogDisk$DiskFile" (20 : Nat) "LogDisk$DiskFile" "now" "LLogDisk$Content;") ∈ gTb := gT_1 214 rfl rfl
theorem gw_215 : (Jvm.Cond.fieldLink "LogDisk" (282 : Nat) "LogDisk$DiskFile" "now" "LLogDisk$Content;") ∈ gTb := gT_1 215 rfl rfl
theorem gw_216 : (Jvm.Cond.fieldLink "LogDisk$DiskFile" (24 : Nat) "LogDisk$DiskFile" "synced" "LLogDisk$Content;") ∈ gTb := gT_1 216 rfl rfl
theorem gw_217 : (Jvm.Cond.fieldLink "LogDisk" (289 : Nat) "LogDisk$DiskFile" "synced" "LLogDisk$Content;") ∈ gTb := gT_1 217 rfl rfl
theorem gw_218 : (Jvm.Cond.fieldLink "LogDisk$DiskFile" (86 : Nat) "LogDisk$DiskFile" "low" "I") ∈ gTb := gT_1 218 rfl rfl
theorem gw_219 : (Jvm.Cond.fieldLink "LogDisk" (292 : Nat) "LogDisk$DiskFile" "low" "I") ∈ gTb := gT_1 219 rfl rfl
theorem gw_220 : (Jvm.Cond.laysFinal "LogDisk$DiskFile" "LogDisk$DiskFile" "pages" "LLogDisk$Pages;") ∈ gTb := gT_1 220 rfl rfl
theorem gw_222 : (Jvm.Cond.laysFinal "LogDisk$DiskFile" "LogDisk$DiskFile" "now" "LLogDisk$Content;") ∈ gTb := gT_1 222 rfl rfl
theorem gw_224 : (Jvm.Cond.laysFinal "LogDisk$DiskFile" "LogDisk$DiskFile" "synced" "LLogDisk$Content;") ∈ gTb := gT_1 224 rfl rfl
theorem gw_226 : (Jvm.Cond.lays "LogDisk$DiskFile" "LogDisk$DiskFile" "low" "I") ∈ gTb := gT_1 226 rfl rfl
theorem gw_229 : (Jvm.Cond.fieldLink "LogDisk" (78 : Nat) "LogDisk" "pages" "LLogDisk$Pages;") ∈ gTb := gT_1 229 rfl rfl
theorem gw_230 : (Jvm.Cond.fieldLink "LogDisk" (11 : Nat) "LogDisk" "files" "[LLogDisk$DiskFile;") ∈ gTb := gT_1 230 rfl rfl
theorem gw_231 : (Jvm.Cond.fieldLink "LogDisk" (15 : Nat) "LogDisk" "keeps" "[I") ∈ gTb := gT_1 231 rfl rfl
theorem gw_232 : (Jvm.Cond.fieldLink "LogDisk" (22 : Nat) "LogDisk" "tape" "LLogDisk$Tape;") ∈ gTb := gT_1 232 rfl rfl
theorem gw_233 : (Jvm.Cond.fieldLink "LogDisk" (29 : Nat) "LogDisk" "frame" "LLogDisk$Frame;") ∈ gTb := gT_1 233 rfl rfl
theorem gw_234 : (Jvm.Cond.fieldLink "LogDisk" (36 : Nat) "LogDisk" "vote" "LLogDisk$Vote;") ∈ gTb := gT_1 234 rfl rfl
theorem gw_235 : (Jvm.Cond.fieldLink "LogDisk" (43 : Nat) "LogDisk" "snapshot" "LLogDisk$Snapshot;") ∈ gTb := gT_1 235 rfl rfl
theorem gw_236 : (Jvm.Cond.fieldLink "LogDisk" (50 : Nat) "LogDisk" "segments" "LLogDisk$Segments;") ∈ gTb := gT_1 236 rfl rfl
theorem gw_237 : (Jvm.Cond.fieldLink "LogDisk" (57 : Nat) "LogDisk" "entries" "LLogDisk$Entries;") ∈ gTb := gT_1 237 rfl rfl
theorem gw_238 : (Jvm.Cond.fieldLink "LogDisk" (82 : Nat) "LogDisk" "firstCode" "I") ∈ gTb := gT_1 238 rfl rfl
theorem gw_239 : (Jvm.Cond.fieldLink "LogDisk" (150 : Nat) "LogDisk" "last" "I") ∈ gTb := gT_1 239 rfl rfl
theorem gw_240 : (Jvm.Cond.fieldLink "LogDisk" (144 : Nat) "LogDisk" "dirty" "Z") ∈ gTb := gT_2 0 rfl rfl
theorem gw_241 : (Jvm.Cond.laysFinal "LogDisk" "LogDisk" "pages" "LLogDisk$Pages;") ∈ gTb := gT_2 1 rfl rfl
theorem gw_243 : (Jvm.Cond.laysFinal "LogDisk" "LogDisk" "files" "[LLogDisk$DiskFile;") ∈ gTb := gT_2 3 rfl rfl
theorem gw_245 : (Jvm.Cond.laysFinal "LogDisk" "LogDisk" "keeps" "[I") ∈ gTb := gT_2 5 rfl rfl
theorem gw_247 : (Jvm.Cond.laysFinal "LogDisk" "LogDisk" "tape" "LLogDisk$Tape;") ∈ gTb := gT_2 7 rfl rfl
theorem gw_249 : (Jvm.Cond.laysFinal "LogDisk" "LogDisk" "frame" "LLogDisk$Frame;") ∈ gTb := gT_2 9 rfl rfl
theorem gw_251 : (Jvm.Cond.laysFinal "LogDisk" "LogDisk" "vote" "LLogDisk$Vote;") ∈ gTb := gT_2 11 rfl rfl
theorem gw_253 : (Jvm.Cond.laysFinal "LogDisk" "LogDisk" "snapshot" "LLogDisk$Snapshot;") ∈ gTb := gT_2 13 rfl rfl
theorem gw_255 : (Jvm.Cond.laysFinal "LogDisk" "LogDisk" "segments" "LLogDisk$Segments;") ∈ gTb := gT_2 15 rfl rfl
theorem gw_257 : (Jvm.Cond.laysFinal "LogDisk" "LogDisk" "entries" "LLogDisk$Entries;") ∈ gTb := gT_2 17 rfl rfl
theorem gw_259 : (Jvm.Cond.laysFinal "LogDisk" "LogDisk" "firstCode" "I") ∈ gTb := gT_2 19 rfl rfl
theorem gw_261 : (Jvm.Cond.lays "LogDisk" "LogDisk" "last" "I") ∈ gTb := gT_2 21 rfl rfl
theorem gw_263 : (Jvm.Cond.lays "LogDisk" "LogDisk" "dirty" "Z") ∈ gTb := gT_2 23 rfl rfl
theorem gw_266 : (Jvm.Cond.methodLink "LogDiskLaw" (105 : Nat) ({ cls := "LogDisk", name := "sync", desc := "()Z" } : Jvm.MethodName)) ∈ gTb := gT_2 26 rfl rfl
theorem gw_267 : (Jvm.Cond.instanceMethod ({ cls := "LogDisk", name := "sync", desc := "()Z" } : Jvm.MethodName)) ∈ gTb := gT_2 27 rfl rfl
theorem gw_268 : (Jvm.Cond.selects "LogDisk" ({ cls := "LogDisk", name := "sync", desc := "()Z" } : Jvm.MethodName) ({ cls := "LogDisk", name := "sync", desc := "()Z" } : Jvm.MethodName)) ∈ gTb := gT_2 28 rfl rfl
theorem gw_269 : (Jvm.Cond.code ({ cls := "LogDisk", name := "sync", desc := "()Z" } : Jvm.MethodName) prog_1_method_8_code (2 : Nat) (Option.some Jvm.ClassFile.FieldType.boolean)) ∈ gTb := gT_2 29 rfl rfl
theorem gw_270 : (Jvm.Cond.methodLink "LogDisk" (224 : Nat) ({ cls := "LogDisk", name := "syncFiles", desc := "()V" } : Jvm.MethodName)) ∈ gTb := gT_2 30 rfl rfl
theorem gw_272 : (Jvm.Cond.instanceMethod ({ cls := "LogDisk", name := "syncFiles", desc := "()V" } : Jvm.MethodName)) ∈ gTb := gT_2 32 rfl rfl
theorem gw_273 : (Jvm.Cond.code ({ cls := "LogDisk", name := "syncFiles", desc := "()V" } : Jvm.MethodName) prog_1_method_29_code (2 : Nat) (Option.none : Option Jvm.ClassFile.FieldType)) ∈ gTb := gT_2 33 rfl rfl
theorem gw_274 : (Jvm.Cond.methodLink "LogDisk" (326 : Nat) ({ cls := "LogDisk$DiskFile", name := "settle", desc := "()V" } : Jvm.MethodName)) ∈ gTb := gT_2 34 rfl rfl
theorem gw_275 : (Jvm.Cond.instanceMethod ({ cls := "LogDisk$DiskFile", name := "settle", desc := "()V" } : Jvm.MethodName)) ∈ gTb := gT_2 35 rfl rfl
theorem gw_276 : (Jvm.Cond.selects "LogDisk$DiskFile" ({ cls := "LogDisk$DiskFile", name := "settle", desc := "()V" } : Jvm.MethodName) ({ cls := "LogDisk$DiskFile", name := "settle", desc := "()V" } : Jvm.MethodName)) ∈ gTb := gT_2 36 rfl rfl
theorem gw_277 : (Jvm.Cond.code ({ cls := "LogDisk$DiskFile", name := "settle", desc := "()V" } : Jvm.MethodName) prog_3_method_10_code (1 : Nat) (Option.none : Option Jvm.ClassFile.FieldType)) ∈ gTb := gT_2 37 rfl rfl
theorem gw_278 : (Jvm.Cond.methodLink "LogDisk$DiskFile" (89 : Nat) ({ cls := "LogDisk$Content", name := "become", desc := "(LLogDisk$Content;LLogDisk$Pages;)V" } : Jvm.MethodName)) ∈ gTb := gT_2 38 rfl rfl
theorem gw_279 : (Jvm.Cond.instanceMethod ({ cls := "LogDisk$Content", name := "become", desc := "(LLogDisk$Content;LLogDisk$Pages;)V" } : Jvm.MethodName)) ∈ gTb := gT_2 39 rfl rfl
theorem gw_280 : (Jvm.Cond.selects "LogDisk$Content" ({ cls := "LogDisk$Content", name := "become", desc := "(LLogDisk$Content;LLogDisk$Pages;)V" } : Jvm.MethodName) ({ cls := "LogDisk$Content", name := "become", desc := "(LLogDisk$Content;LLogDisk$Pages;)V" } : Jvm.MethodName)) ∈ gTb := gT_2 40 rfl rfl
theorem gw_281 : (Jvm.Cond.code ({ cls := "LogDisk$Content", name := "become", desc := "(LLogDisk$Content;LLogDisk$Pages;)V" } : Jvm.MethodName) prog_2_method_3_code (5 : Nat) (Option.none : Option Jvm.ClassFile.FieldType)) ∈ gTb := gT_2 41 rfl rfl
theorem gw_282 : (Jvm.Cond.methodLink "LogDisk$Content" (29 : Nat) ({ cls := "LogDisk$Content", name := "shorten", desc := "(ILLogDisk$Pages;)V" } : Jvm.MethodName)) ∈ gTb := gT_2 42 rfl rfl
theorem gw_283 : (Jvm.Cond.instanceMethod ({ cls := "LogDisk$Content", name := "shorten", desc := "(ILLogDisk$Pages;)V" } : Jvm.MethodName)) ∈ gTb := gT_2 43 rfl rfl
theorem gw_284 : (Jvm.Cond.selects "LogDisk$Content" ({ cls := "LogDisk$Content", name := "shorten", desc := "(ILLogDisk$Pages;)V" } : Jvm.MethodName) ({ cls := "LogDisk$Content", name := "shorten", desc := "(ILLogDisk$Pages;)V" } : Jvm.MethodName)) ∈ gTb := gT_2 44 rfl rfl
theorem gw_285 : (Jvm.Cond.code ({ cls := "LogDisk$Content", name := "shorten", desc := "(ILLogDisk$Pages;)V" } : Jvm.MethodName) prog_2_method_2_code (5 : Nat) (Option.none : Option Jvm.ClassFile.FieldType)) ∈ gTb := gT_2 45 rfl rfl
theorem gw_287 : (Jvm.Cond.static ({ cls := "LogDisk", name := "pagesFor", desc := "(I)I" } : Jvm.MethodName)) ∈ gTb := gT_2 47 rfl rfl
theorem gw_288 : (Jvm.Cond.code ({ cls := "LogDisk", name := "pagesFor", desc := "(I)I" } : Jvm.MethodName) prog_1_method_39_code (1 : Nat) (Option.some Jvm.ClassFile.FieldType.int)) ∈ gTb := gT_2 48 rfl rfl
theorem gw_289 : (Jvm.Cond.methodLink "LogDisk$Content" (23 : Nat) ({ cls := "LogDisk$Pages", name := "giveUp", desc := "(I)V" } : Jvm.MethodName)) ∈ gTb := gT_2 49 rfl rfl
theorem gw_290 : (Jvm.Cond.instanceMethod ({ cls := "LogDisk$Pages", name := "giveUp", desc := "(I)V" } : Jvm.MethodName)) ∈ gTb := gT_2 50 rfl rfl
theorem gw_291 : (Jvm.Cond.selects "LogDisk$Pages" ({ cls := "LogDisk$Pages", name := "giveUp", desc := "(I)V" } : Jvm.MethodName) ({ cls := "LogDisk$Pages", name := "giveUp", desc := "(I)V" } : Jvm.MethodName)) ∈ gTb := gT_2 51 rfl rfl
theorem gw_292 : (Jvm.Cond.code ({ cls := "LogDisk$Pages", name := "giveUp", desc := "(I)V" } : Jvm.MethodName) prog_6_method_5_code (2 : Nat) (Option.none : Option Jvm.ClassFile.FieldType)) ∈ gTb := gT_2 52 rfl rfl
theorem gw_293 : (Jvm.Cond.methodLink "LogDisk$Content" (33 : Nat) ({ cls := "LogDisk$Pages", name := "share", desc := "(I)V" } : Jvm.MethodName)) ∈ gTb := gT_2 53 rfl rfl
theorem gw_294 : (Jvm.Cond.instanceMethod ({ cls := "LogDisk$Pages", name := "share", desc := "(I)V" } : Jvm.MethodName)) ∈ gTb := gT_2 54 rfl rfl
theorem gw_295 : (Jvm.Cond.selects "LogDisk$Pages" ({ cls := "LogDisk$Pages", name := "share", desc := "(I)V" } : Jvm.MethodName) ({ cls := "LogDisk$Pages", name := "share", desc := "(I)V" } : Jvm.MethodName)) ∈ gTb := gT_2 55 rfl rfl
theorem gw_296 : (Jvm.Cond.code ({ cls := "LogDisk$Pages", name := "share", desc := "(I)V" } : Jvm.MethodName) prog_6_method_4_code (2 : Nat) (Option.none : Option Jvm.ClassFile.FieldType)) ∈ gTb := gT_2 56 rfl rfl
theorem gw_297 : (Jvm.Cond.methodLink "LogDiskLaw" (114 : Nat) ({ cls := "LogDisk", name := "crash", desc := "(J)I" } : Jvm.MethodName)) ∈ gTb := gT_2 57 rfl rfl
theorem gw_298 : (Jvm.Cond.instanceMethod ({ cls := "LogDisk", name := "crash", desc := "(J)I" } : Jvm.MethodName)) ∈ gTb := gT_2 58 rfl rfl
theorem gw_299 : (Jvm.Cond.selects "LogDisk" ({ cls := "LogDisk", name := "crash", desc := "(J)I" } : Jvm.MethodName) ({ cls := "LogDisk", name := "crash", desc := "(J)I" } : Jvm.MethodName)) ∈ gTb := gT_2 59 rfl rfl
theorem gw_300 : (Jvm.Cond.code ({ cls := "LogDisk", name := "crash", desc := "(J)I" } : Jvm.MethodName) prog_1_method_10_code (3 : Nat) (Option.some Jvm.ClassFile.FieldType.int)) ∈ gTb := gT_2 60 rfl rfl
theorem gw_301 : (Jvm.Cond.methodLink "LogDisk" (234 : Nat) ({ cls := "LogDisk", name := "crashFiles", desc := "(J)V" } : Jvm.MethodName)) ∈ gTb := gT_2 61 rfl rfl
theorem gw_303 : (Jvm.Cond.instanceMethod ({ cls := "LogDisk", name := "crashFiles", desc := "(J)V" } : Jvm.MethodName)) ∈ gTb := gT_2 63 rfl rfl
theorem gw_304 : (Jvm.Cond.code ({ cls := "LogDisk", name := "crashFiles", desc := "(J)V" } : Jvm.MethodName) prog_1_method_30_code (7 : Nat) (Option.none : Option Jvm.ClassFile.FieldType)) ∈ gTb := gT_2 64 rfl rfl
theorem gw_305 : (Jvm.Cond.constantLong "LogDisk" (338 : Nat) (6364136223846793005 : Int64)) ∈ gTb := gT_2 65 rfl rfl
theorem gw_306 : (Jvm.Cond.constantLong "LogDisk" (340 : Nat) (1442695040888963407 : Int64)) ∈ gTb := gT_2 66 rfl rfl
theorem gw_307 : (Jvm.Cond.methodLink "LogDisk" (342 : Nat) ({ cls := "LogDisk$DiskFile", name := "drawnKeep", desc := "(J)I" } : Jvm.MethodName)) ∈ gTb := gT_2 67 rfl rfl
theorem gw_308 : (Jvm.Cond.instanceMethod ({ cls := "LogDisk$DiskFile", name := "drawnKeep", desc := "(J)I" } : Jvm.MethodName)) ∈ gTb := gT_2 68 rfl rfl
theorem gw_309 : (Jvm.Cond.selects "LogDisk$DiskFile" ({ cls := "LogDisk$DiskFile", name := "drawnKeep", desc := "(J)I" } : Jvm.MethodName) ({ cls := "LogDisk$DiskFile", name := "drawnKeep", desc := "(J)I" } : Jvm.MethodName)) ∈ gTb := gT_2 69 rfl rfl
theorem gw_310 : (Jvm.Cond.code ({ cls := "LogDisk$DiskFile", name := "drawnKeep", desc := "(J)I" } : Jvm.MethodName) prog_3_method_11_code (5 : Nat) (Option.some Jvm.ClassFile.FieldType.int)) ∈ gTb := gT_2 70 rfl rfl
theorem gw_311 : (Jvm.Cond.constant "LogDisk$DiskFile" (93 : Nat) (1048575 : Int32)) ∈ gTb := gT_2 71 rfl rfl
theorem gw_312 : (Jvm.Cond.methodLink "LogDisk$DiskFile" (94 : Nat) ({ cls := "java/lang/Math", name := "max", desc := "(II)I" } : Jvm.MethodName)) ∈ gTb := gT_2 72 rfl rfl
theorem gw_313 : (Jvm.Cond.methodLink "LogDisk" (346 : Nat) ({ cls := "LogDisk$DiskFile", name := "fail", desc := "(I)V" } : Jvm.MethodName)) ∈ gTb := gT_2 73 rfl rfl
theorem gw_314 : (Jvm.Cond.instanceMethod ({ cls := "LogDisk$DiskFile", name := "fail", desc := "(I)V" } : Jvm.MethodName)) ∈ gTb := gT_2 74 rfl rfl
theorem gw_315 : (Jvm.Cond.selects "LogDisk$DiskFile" ({ cls := "LogDisk$DiskFile", name := "fail", desc := "(I)V" } : Jvm.MethodName) ({ cls := "LogDisk$DiskFile", name := "fail", desc := "(I)V" } : Jvm.MethodName)) ∈ gTb := gT_2 75 rfl rfl
theorem gw_316 : (Jvm.Cond.code ({ cls := "LogDisk$DiskFile", name := "fail", desc := "(I)V" } : Jvm.MethodName) prog_3_method_12_code (4 : Nat) (Option.none : Option Jvm.ClassFile.FieldType)) ∈ gTb := gT_2 76 rfl rfl
theorem gw_317 : (Jvm.Cond.methodLink "LogDisk$DiskFile" (97 : Nat) ({ cls := "LogDisk$DiskFile", name := "cutTo", desc := "(I)V" } : Jvm.MethodName)) ∈ gTb := gT_2 77 rfl rfl
theorem gw_318 : (Jvm.Cond.instanceMethod ({ cls := "LogDisk$DiskFile", name := "cutTo", desc := "(I)V" } : Jvm.MethodName)) ∈ gTb := gT_2 78 rfl rfl
theorem gw_319 : (Jvm.Cond.selects "LogDisk$DiskFile" ({ cls := "LogDisk$DiskFile", name := "cutTo", desc := "(I)V" } : Jvm.MethodName) ({ cls := "LogDisk$DiskFile", name := "cutTo", desc := "(I)V" } : Jvm.MethodName)) ∈ gTb := gT_2 79 rfl rfl
theorem gw_320 : (Jvm.Cond.code ({ cls := "LogDisk$DiskFile", name := "cutTo", desc := "(I)V" } : Jvm.MethodName) prog_3_method_8_code (2 : Nat) (Option.none : Option Jvm.ClassFile.FieldType)) ∈ gTb := gT_2 80 rfl rfl
theorem gw_321 : (Jvm.Cond.methodLink "LogDisk$DiskFile" (82 : Nat) ({ cls := "LogDisk$Content", name := "shorten", desc := "(ILLogDisk$Pages;)V" } : Jvm.MethodName)) ∈ gTb := gT_2 81 rfl rfl
theorem gw_322 : (Jvm.Cond.methodLink "LogDisk$DiskFile" (63 : Nat) ({ cls := "java/lang/Math", name := "min", desc := "(II)I" } : Jvm.MethodName)) ∈ gTb := gT_2 82 rfl rfl
theorem gw_323 : (Jvm.Cond.methodLink "LogDisk$DiskFile" (100 : Nat) ({ cls := "LogDisk$DiskFile", name := "settle", desc := "()V" } : Jvm.MethodName)) ∈ gTb := gT_2 83 rfl rfl
theorem gw_324 : (Jvm.Cond.methodLink "LogDisk" (238 : Nat) ({ cls := "LogDisk", name := "findVote", desc := "()V" } : Jvm.MethodName)) ∈ gTb := gT_2 84 rfl rfl
theorem gw_326 : (Jvm.Cond.instanceMethod ({ cls := "LogDisk", name := "findVote", desc := "()V" } : Jvm.MethodName)) ∈ gTb := gT_2 86 rfl rfl
theorem gw_327 : (Jvm.Cond.code ({ cls := "LogDisk", name := "findVote", desc := "()V" } : Jvm.MethodName) prog_1_method_31_code (5 : Nat) (Option.none : Option Jvm.ClassFile.FieldType)) ∈ gTb := gT_2 87 rfl rfl
theorem gw_328 : (Jvm.Cond.methodLink "LogDisk" (349 : Nat) ({ cls := "LogDisk$Vote", name := "forget", desc := "()V" } : Jvm.MethodName)) ∈ gTb := gT_2 88 rfl rfl
theorem gw_329 : (Jvm.Cond.instanceMethod ({ cls := "LogDisk$Vote", name := "forget", desc := "()V" } : Jvm.MethodName)) ∈ gTb := gT_2 89 rfl rfl
theorem gw_330 : (Jvm.Cond.selects "LogDisk$Vote" ({ cls := "LogDisk$Vote", name := "forget", desc := "()V" } : Jvm.MethodName) ({ cls := "LogDisk$Vote", name := "forget", desc := "()V" } : Jvm.MethodName)) ∈ gTb := gT_2 90 rfl rfl
theorem gw_331 : (Jvm.Cond.code ({ cls := "LogDisk$Vote", name := "forget", desc := "()V" } : Jvm.MethodName) prog_10_method_3_code (1 : Nat) (Option.none : Option Jvm.ClassFile.FieldType)) ∈ gTb := gT_2 91 rfl rfl
theorem gw_332 : (Jvm.Cond.methodLink "LogDisk$Vote" (25 : Nat) ({ cls := "LogDisk$Vote", name := "set", desc := "(IJII)V" } : Jvm.MethodName)) ∈ gTb := gT_2 92 rfl rfl
theorem gw_333 : (Jvm.Cond.instanceMethod ({ cls := "LogDisk$Vote", name := "set", desc := "(IJII)V" } : Jvm.MethodName)) ∈ gTb := gT_2 93 rfl rfl
theorem gw_334 : (Jvm.Cond.selects "LogDisk$Vote" ({ cls := "LogDisk$Vote", name := "set", desc := "(IJII)V" } : Jvm.MethodName) ({ cls := "LogDisk$Vote", name := "set", desc := "(IJII)V" } : Jvm.MethodName)) ∈ gTb := gT_2 94 rfl rfl
theorem gw_335 : (Jvm.Cond.code ({ cls := "LogDisk$Vote", name := "set", desc := "(IJII)V" } : Jvm.MethodName) prog_10_method_2_code (6 : Nat) (Option.none : Option Jvm.ClassFile.FieldType)) ∈ gTb := gT_2 95 rfl rfl
theorem gw_336 : (Jvm.Cond.methodLink "LogDisk" (352 : Nat) ({ cls := "LogDisk$DiskFile", name := "wholeFrame", desc := "(I)I" } : Jvm.MethodName)) ∈ gTb := gT_2 96 rfl rfl
theorem gw_337 : (Jvm.Cond.instanceMethod ({ cls := "LogDisk$DiskFile", name := "wholeFrame", desc := "(I)I" } : Jvm.MethodName)) ∈ gTb := gT_2 97 rfl rfl
theorem gw_338 : (Jvm.Cond.selects "LogDisk$DiskFile" ({ cls := "LogDisk$DiskFile", name := "wholeFrame", desc := "(I)I" } : Jvm.MethodName) ({ cls := "LogDisk$DiskFile", name := "wholeFrame", desc := "(I)I" } : Jvm.MethodName)) ∈ gTb := gT_2 98 rfl rfl
theorem gw_339 : (Jvm.Cond.code ({ cls := "LogDisk$DiskFile", name := "wholeFrame", desc := "(I)I" } : Jvm.MethodName) prog_3_method_15_code (6 : Nat) (Option.some Jvm.ClassFile.FieldType.int)) ∈ gTb := gT_2 99 rfl rfl
theorem gw_340 : (Jvm.Cond.methodLink "LogDisk$DiskFile" (106 : Nat) ({ cls := "LogDisk$DiskFile", name := "number", desc := "(II)J" } : Jvm.MethodName)) ∈ gTb := gT_2 100 rfl rfl
theorem gw_341 : (Jvm.Cond.instanceMethod ({ cls := "LogDisk$DiskFile", name := "number", desc := "(II)J" } : Jvm.MethodName)) ∈ gTb := gT_2 101 rfl rfl
theorem gw_342 : (Jvm.Cond.selects "LogDisk$DiskFile" ({ cls := "LogDisk$DiskFile", name := "number", desc := "(II)J" } : Jvm.MethodName) ({ cls := "LogDisk$DiskFile", name := "number", desc := "(II)J" } : Jvm.MethodName)) ∈ gTb := gT_2 102 rfl rfl
theorem gw_343 : (Jvm.Cond.code ({ cls := "LogDisk$DiskFile", name := "number", desc := "(II)J" } : Jvm.MethodName) prog_3_method_14_code (6 : Nat) (Option.some Jvm.ClassFile.FieldType.long)) ∈ gTb := gT_2 103 rfl rfl
theorem gw_344 : (Jvm.Cond.methodLink "LogDisk$DiskFile" (103 : Nat) ({ cls := "LogDisk$DiskFile", name := "read", desc := "(I)I" } : Jvm.MethodName)) ∈ gTb := gT_2 104 rfl rfl
theorem gw_345 : (Jvm.Cond.instanceMethod ({ cls := "LogDisk$DiskFile", name := "read", desc := "(I)I" } : Jvm.MethodName)) ∈ gTb := gT_2 105 rfl rfl
theorem gw_346 : (Jvm.Cond.selects "LogDisk$DiskFile" ({ cls := "LogDisk$DiskFile", name := "read", desc := "(I)I" } : Jvm.MethodName) ({ cls := "LogDisk$DiskFile", name := "read", desc := "(I)I" } : Jvm.MethodName)) ∈ gTb := gT_2 106 rfl rfl
theorem gw_347 : (Jvm.Cond.code ({ cls := "LogDisk$DiskFile", name := "read", desc := "(I)I" } : Jvm.MethodName) prog_3_method_13_code (2 : Nat) (Option.some Jvm.ClassFile.FieldType.int)) ∈ gTb := gT_2 107 rfl rfl
theorem gw_349 : (Jvm.Cond.static ({ cls := "LogDisk", name := "sumStep", desc := "(II)I" } : Jvm.MethodName)) ∈ gTb := gT_2 109 rfl rfl
theorem gw_350 : (Jvm.Cond.code ({ cls := "LogDisk", name := "sumStep", desc := "(II)I" } : Jvm.MethodName) prog_1_method_40_code (3 : Nat) (Option.some Jvm.ClassFile.FieldType.int)) ∈ gTb := gT_2 110 rfl rfl
theorem gw_351 : (Jvm.Cond.fieldLink "LogDisk" (384 : Nat) "LogDisk" "SUM_OF_HALF" "[I") ∈ gTb := gT_2 111 rfl rfl
theorem gw_353 : (Jvm.Cond.methodLink "LogDisk" (355 : Nat) ({ cls := "LogDisk$DiskFile", name := "number", desc := "(II)J" } : Jvm.MethodName)) ∈ gTb := gT_2 113 rfl rfl
theorem gw_354 : (Jvm.Cond.methodLink "LogDisk" (133 : Nat) ({ cls := "LogDisk$Vote", name := "set", desc := "(IJII)V" } : Jvm.MethodName)) ∈ gTb := gT_2 114 rfl rfl
theorem gw_355 : (Jvm.Cond.methodLink "LogDisk" (241 : Nat) ({ cls := "LogDisk", name := "findSnapshot", desc := "()V" } : Jvm.MethodName)) ∈ gTb := gT_2 115 rfl rfl
theorem gw_357 : (Jvm.Cond.instanceMethod ({ cls := "LogDisk", name := "findSnapshot", desc := "()V" } : Jvm.MethodName)) ∈ gTb := gT_2 117 rfl rfl
theorem gw_358 : (Jvm.Cond.code ({ cls := "LogDisk", name := "findSnapshot", desc := "()V" } : Jvm.MethodName) prog_1_method_32_code (5 : Nat) (Option.none : Option Jvm.ClassFile.FieldType)) ∈ gTb := gT_2 118 rfl rfl
theorem gw_359 : (Jvm.Cond.methodLink "LogDisk" (324 : Nat) ({ cls := "LogDisk$Snapshot", name := "set", desc := "(IIII)V" } : Jvm.MethodName)) ∈ gTb := gT_2 119 rfl rfl
theorem gw_360 : (Jvm.Cond.instanceMethod ({ cls := "LogDisk$Snapshot", name := "set", desc := "(IIII)V" } : Jvm.MethodName)) ∈ gTb := gT_2 120 rfl rfl
theorem gw_361 : (Jvm.Cond.selects "LogDisk$Snapshot" ({ cls := "LogDisk$Snapshot", name := "set", desc := "(IIII)V" } : Jvm.MethodName) ({ cls := "LogDisk$Snapshot", name := "set", desc := "(IIII)V" } : Jvm.MethodName)) ∈ gTb := gT_2 121 rfl rfl
theorem gw_362 : (Jvm.Cond.code ({ cls := "LogDisk$Snapshot", name := "set", desc := "(IIII)V" } : Jvm.MethodName) prog_8_method_2_code (5 : Nat) (Option.none : Option Jvm.ClassFile.FieldType)) ∈ gTb := gT_2 122 rfl rfl
theorem gw_363 : (Jvm.Cond.methodLink "LogDisk" (244 : Nat) ({ cls := "LogDisk", name := "findLog", desc := "()V" } : Jvm.MethodName)) ∈ gTb := gT_2 123 rfl rfl
theorem gw_365 : (Jvm.Cond.instanceMethod ({ cls := "LogDisk", name := "findLog", desc := "()V" } : Jvm.MethodName)) ∈ gTb := gT_2 125 rfl rfl
theorem gw_366 : (Jvm.Cond.code ({ cls := "LogDisk", name := "findLog", desc := "()V" } : Jvm.MethodName) prog_1_method_33_code (4 : Nat) (Option.none : Option Jvm.ClassFile.FieldType)) ∈ gTb := gT_2 126 rfl rfl
theorem gw_367 : (Jvm.Cond.methodLink "LogDisk" (359 : Nat) ({ cls := "LogDisk", name := "firstSegment", desc := "()I" } : Jvm.MethodName)) ∈ gTb := gT_2 127 rfl rfl
theorem gw_369 : (Jvm.Cond.instanceMethod ({ cls := "LogDisk", name := "firstSegment", desc := "()I" } : Jvm.MethodName)) ∈ gTb := gT_2 129 rfl rfl
theorem gw_370 : (Jvm.Cond.code ({ cls := "LogDisk", name := "firstSegment", desc := "()I" } : Jvm.MethodName) prog_1_method_35_code (5 : Nat) (Option.some Jvm.ClassFile.FieldType.int)) ∈ gTb := gT_2 130 rfl rfl
theorem gw_371 : (Jvm.Cond.methodLink "LogDisk" (375 : Nat) ({ cls := "LogDisk$DiskFile", name := "segmentFirst", desc := "()I" } : Jvm.MethodName)) ∈ gTb := gT_2 131 rfl rfl
theorem gw_372 : (Jvm.Cond.instanceMethod ({ cls := "LogDisk$DiskFile", name := "segmentFirst", desc := "()I" } : Jvm.MethodName)) ∈ gTb := gT_2 132 rfl rfl
theorem gw_373 : (Jvm.Cond.selects "LogDisk$DiskFile" ({ cls := "LogDisk$DiskFile", name := "segmentFirst", desc := "()I" } : Jvm.MethodName) ({ cls := "LogDisk$DiskFile", name := "segmentFirst", desc := "()I" } : Jvm.MethodName)) ∈ gTb := gT_2 133 rfl rfl
theorem gw_374 : (Jvm.Cond.code ({ cls := "LogDisk$DiskFile", name := "segmentFirst", desc := "()I" } : Jvm.MethodName) prog_3_method_16_code (1 : Nat) (Option.some Jvm.ClassFile.FieldType.int)) ∈ gTb := gT_2 134 rfl rfl
theorem gw_375 : (Jvm.Cond.methodLink "LogDisk$DiskFile" (113 : Nat) ({ cls := "LogDisk$DiskFile", name := "wholeFrame", desc := "(I)I" } : Jvm.MethodName)) ∈ gTb := gT_2 135 rfl rfl
theorem gw_376 : (Jvm.Cond.methodLink "LogDisk" (362 : Nat) ({ cls := "LogDisk", name := "readSegment", desc := "(I)I" } : Jvm.MethodName)) ∈ gTb := gT_2 136 rfl rfl
theorem gw_378 : (Jvm.Cond.instanceMethod ({ cls := "LogDisk", name := "readSegment", desc := "(I)I" } : Jvm.MethodName)) ∈ gTb := gT_2 138 rfl rfl
theorem gw_379 : (Jvm.Cond.code ({ cls := "LogDisk", name := "readSegment", desc := "(I)I" } : Jvm.MethodName) prog_1_method_37_code (8 : Nat) (Option.some Jvm.ClassFile.FieldType.int)) ∈ gTb := gT_2 139 rfl rfl
theorem gw_380 : (Jvm.Cond.methodLink "LogDisk" (275 : Nat) ({ cls := "LogDisk$DiskFile", name := "read", desc := "(I)I" } : Jvm.MethodName)) ∈ gTb := gT_2 140 rfl rfl
theorem gw_381 : (Jvm.Cond.methodLink "LogDisk" (318 : Nat) ({ cls := "LogDisk$Entries", name := "set", desc := "(IIIIII)V" } : Jvm.MethodName)) ∈ gTb := gT_2 141 rfl rfl
theorem gw_382 : (Jvm.Cond.instanceMethod ({ cls := "LogDisk$Entries", name := "set", desc := "(IIIIII)V" } : Jvm.MethodName)) ∈ gTb := gT_2 142 rfl rfl
theorem gw_383 : (Jvm.Cond.selects "LogDisk$Entries" ({ cls := "LogDisk$Entries", name := "set", desc := "(IIIIII)V" } : Jvm.MethodName) ({ cls := "LogDisk$Entries", name := "set", desc := "(IIIIII)V" } : Jvm.MethodName)) ∈ gTb := gT_2 143 rfl rfl
theorem gw_384 : (Jvm.Cond.code ({ cls := "LogDisk$Entries", name := "set", desc := "(IIIIII)V" } : Jvm.MethodName) prog_4_method_3_code (8 : Nat) (Option.none : Option Jvm.ClassFile.FieldType)) ∈ gTb := gT_2 144 rfl rfl
theorem gw_385 : (Jvm.Cond.methodLink "LogDisk$Entries" (33 : Nat) ({ cls := "LogDisk$Entries", name := "slot", desc := "(I)I" } : Jvm.MethodName)) ∈ gTb := gT_2 145 rfl rfl
theorem gw_386 : (Jvm.Cond.instanceMethod ({ cls := "LogDisk$Entries", name := "slot", desc := "(I)I" } : Jvm.MethodName)) ∈ gTb := gT_2 146 rfl rfl
theorem gw_387 : (Jvm.Cond.selects "LogDisk$Entries" ({ cls := "LogDisk$Entries", name := "slot", desc := "(I)I" } : Jvm.MethodName) ({ cls := "LogDisk$Entries", name := "slot", desc := "(I)I" } : Jvm.MethodName)) ∈ gTb := gT_2 147 rfl rfl
theorem gw_388 : (Jvm.Cond.code ({ cls := "LogDisk$Entries", name := "slot", desc := "(I)I" } : Jvm.MethodName) prog_4_method_2_code (2 : Nat) (Option.some Jvm.ClassFile.FieldType.int)) ∈ gTb := gT_2 148 rfl rfl
theorem gw_389 : (Jvm.Cond.methodLink "LogDisk$Entries" (27 : Nat) ({ cls := "java/lang/Math", name := "floorMod", desc := "(II)I" } : Jvm.MethodName)) ∈ gTb := gT_2 149 rfl rfl
theorem gw_390 : (Jvm.Cond.static ({ cls := "java/lang/Math", name := "floorMod", desc := "(II)I" } : Jvm.MethodName)) ∈ gTb := gT_2 150 rfl rfl
theorem gw_391 : (Jvm.Cond.code ({ cls := "java/lang/Math", name := "floorMod", desc := "(II)I" } : Jvm.MethodName) prog_17_method_50_code (3 : Nat) (Option.some Jvm.ClassFile.FieldType.int)) ∈ gTb := gT_2 151 rfl rfl
theorem gw_392 : (Jvm.Cond.methodLink "LogDisk" (213 : Nat) ({ cls := "LogDisk$DiskFile", name := "cutTo", desc := "(I)V" } : Jvm.MethodName)) ∈ gTb := gT_2 152 rfl rfl
theorem gw_393 : (Jvm.Cond.methodLink "LogDisk" (365 : Nat) ({ cls := "LogDisk", name := "holdsBase", desc := "(II)Z" } : Jvm.MethodName)) ∈ gTb := gT_2 153 rfl rfl
theorem gw_395 : (Jvm.Cond.instanceMethod ({ cls := "LogDisk", name := "holdsBase", desc := "(II)Z" } : Jvm.MethodName)) ∈ gTb := gT_2 155 rfl rfl
theorem gw_396 : (Jvm.Cond.code ({ cls := "LogDisk", name := "holdsBase", desc := "(II)Z" } : Jvm.MethodName) prog_1_method_38_code (3 : Nat) (Option.some Jvm.ClassFile.FieldType.boolean)) ∈ gTb := gT_2 156 rfl rfl
theorem gw_397 : (Jvm.Cond.methodLink "LogDisk" (381 : Nat) ({ cls := "LogDisk$DiskFile", name := "termBefore", desc := "()I" } : Jvm.MethodName)) ∈ gTb := gT_2 157 rfl rfl
theorem gw_398 : (Jvm.Cond.instanceMethod ({ cls := "LogDisk$DiskFile", name := "termBefore", desc := "()I" } : Jvm.MethodName)) ∈ gTb := gT_2 158 rfl rfl
theorem gw_399 : (Jvm.Cond.selects "LogDisk$DiskFile" ({ cls := "LogDisk$DiskFile", name := "termBefore", desc := "()I" } : Jvm.MethodName) ({ cls := "LogDisk$DiskFile", name := "termBefore", desc := "()I" } : Jvm.MethodName)) ∈ gTb := gT_2 159 rfl rfl
theorem gw_400 : (Jvm.Cond.code ({ cls := "LogDisk$DiskFile", name := "termBefore", desc := "()I" } : Jvm.MethodName) prog_3_method_17_code (1 : Nat) (Option.some Jvm.ClassFile.FieldType.int)) ∈ gTb := gT_2 160 rfl rfl
theorem gw_401 : (Jvm.Cond.methodLink "LogDisk" (206 : Nat) ({ cls := "LogDisk$Entries", name := "slot", desc := "(I)I" } : Jvm.MethodName)) ∈ gTb := gT_2 161 rfl rfl
theorem gw_402 : (Jvm.Cond.methodLink "LogDisk" (369 : Nat) ({ cls := "LogDisk", name := "followSegments", desc := "(II)V" } : Jvm.MethodName)) ∈ gTb := gT_2 162 rfl rfl
theorem gw_404 : (Jvm.Cond.instanceMethod ({ cls := "LogDisk", name := "followSegments", desc := "(II)V" } : Jvm.MethodName)) ∈ gTb := gT_2 164 rfl rfl
theorem gw_405 : (Jvm.Cond.code ({ cls := "LogDisk", name := "followSegments", desc := "(II)V" } : Jvm.MethodName) prog_1_method_34_code (7 : Nat) (Option.none : Option Jvm.ClassFile.FieldType)) ∈ gTb := gT_2 165 rfl rfl
theorem gw_406 : (Jvm.Cond.methodLink "LogDisk" (315 : Nat) ({ cls := "LogDisk$Segments", name := "add", desc := "(II)V" } : Jvm.MethodName)) ∈ gTb := gT_2 166 rfl rfl
theorem gw_407 : (Jvm.Cond.instanceMethod ({ cls := "LogDisk$Segments", name := "add", desc := "(II)V" } : Jvm.MethodName)) ∈ gTb := gT_2 167 rfl rfl
theorem gw_408 : (Jvm.Cond.selects "LogDisk$Segments" ({ cls := "LogDisk$Segments", name := "add", desc := "(II)V" } : Jvm.MethodName) ({ cls := "LogDisk$Segments", name := "add", desc := "(II)V" } : Jvm.MethodName)) ∈ gTb := gT_2 168 rfl rfl
theorem gw_409 : (Jvm.Cond.code ({ cls := "LogDisk$Segments", name := "add", desc := "(II)V" } : Jvm.MethodName) prog_7_method_2_code (3 : Nat) (Option.none : Option Jvm.ClassFile.FieldType)) ∈ gTb := gT_2 169 rfl rfl
theorem gw_410 : (Jvm.Cond.methodLink "LogDisk" (378 : Nat) ({ cls := "LogDisk", name := "segmentBehind", desc := "(II)I" } : Jvm.MethodName)) ∈ gTb := gT_2 170 rfl rfl
theorem gw_412 : (Jvm.Cond.instanceMethod ({ cls := "LogDisk", name := "segmentBehind", desc := "(II)I" } : Jvm.MethodName)) ∈ gTb := gT_2 172 rfl rfl
theorem gw_413 : (Jvm.Cond.code ({ cls := "LogDisk", name := "segmentBehind", desc := "(II)I" } : Jvm.MethodName) prog_1_method_36_code (4 : Nat) (Option.some Jvm.ClassFile.FieldType.int)) ∈ gTb := gT_2 173 rfl rfl
theorem gw_414 : (Jvm.Cond.methodLink "LogDisk" (372 : Nat) ({ cls := "LogDisk$Segments", name := "has", desc := "(I)Z" } : Jvm.MethodName)) ∈ gTb := gT_2 174 rfl rfl
theorem gw_415 : (Jvm.Cond.instanceMethod ({ cls := "LogDisk$Segments", name := "has", desc := "(I)Z" } : Jvm.MethodName)) ∈ gTb := gT_2 175 rfl rfl
theorem gw_416 : (Jvm.Cond.selects "LogDisk$Segments" ({ cls := "LogDisk$Segments", name := "has", desc := "(I)Z" } : Jvm.MethodName) ({ cls := "LogDisk$Segments", name := "has", desc := "(I)Z" } : Jvm.MethodName)) ∈ gTb := gT_2 176 rfl rfl
theorem gw_417 : (Jvm.Cond.code ({ cls := "LogDisk$Segments", name := "has", desc := "(I)Z" } : Jvm.MethodName) prog_7_method_4_code (3 : Nat) (Option.some Jvm.ClassFile.FieldType.boolean)) ∈ gTb := gT_2 177 rfl rfl
theorem gw_418 : (Jvm.Cond.methodLink "LogDisk" (203 : Nat) ({ cls := "LogDisk$DiskFile", name := "remove", desc := "()V" } : Jvm.MethodName)) ∈ gTb := gT_2 178 rfl rfl
theorem gw_419 : (Jvm.Cond.instanceMethod ({ cls := "LogDisk$DiskFile", name := "remove", desc := "()V" } : Jvm.MethodName)) ∈ gTb := gT_2 179 rfl rfl
theorem gw_420 : (Jvm.Cond.selects "LogDisk$DiskFile" ({ cls := "LogDisk$DiskFile", name := "remove", desc := "()V" } : Jvm.MethodName) ({ cls := "LogDisk$DiskFile", name := "remove", desc := "()V" } : Jvm.MethodName)) ∈ gTb := gT_2 180 rfl rfl
theorem gw_421 : (Jvm.Cond.code ({ cls := "LogDisk$DiskFile", name := "remove", desc := "()V" } : Jvm.MethodName) prog_3_method_9_code (1 : Nat) (Option.none : Option Jvm.ClassFile.FieldType)) ∈ gTb := gT_2 181 rfl rfl
theorem gw_422 : (Jvm.Cond.methodLink "LogDiskLaw" (66 : Nat) ({ cls := "LogDiskLaw", name := "cell", desc := "([II)I" } : Jvm.MethodName)) ∈ gTb := gT_2 182 rfl rfl
theorem gw_423 : (Jvm.Cond.static ({ cls := "LogDiskLaw", name := "cell", desc := "([II)I" } : Jvm.MethodName)) ∈ gTb := gT_2 183 rfl rfl
theorem gw_424 : (Jvm.Cond.code ({ cls := "LogDiskLaw", name := "cell", desc := "([II)I" } : Jvm.MethodName) method_2_code (2 : Nat) (Option.some Jvm.ClassFile.FieldType.int)) ∈ gTb := gT_2 184 rfl rfl
theorem gw_425 : (Jvm.Cond.methodLink "LogDiskLaw" (79 : Nat) ({ cls := "LogDiskLaw", name := "feed", desc := "(LLogDisk;JI[J)I" } : Jvm.MethodName)) ∈ gTb := gT_2 185 rfl rfl
theorem gw_426 : (Jvm.Cond.static ({ cls := "LogDiskLaw", name := "feed", desc := "(LLogDisk;JI[J)I" } : Jvm.MethodName)) ∈ gTb := gT_2 186 rfl rfl
theorem gw_427 : (Jvm.Cond.codeWith ({ cls := "LogDiskLaw", name := "feed", desc := "(LLogDisk;JI[J)I" } : Jvm.MethodName) method_3_code (6 : Nat) (Option.some Jvm.ClassFile.FieldType.int) [((0 : Nat), (11 : Nat), (14 : Nat), (13 : Nat)), ((0 : Nat), (11 : Nat), (18 : Nat), (15 : Nat))]) ∈ gTb := gT_2 187 rfl rfl
theorem gw_428 : (Jvm.Cond.classLink "LogDiskLaw" (13 : Nat) "java/lang/IllegalArgumentException") ∈ gTb := gT_2 188 rfl rfl
theorem gw_429 : (Jvm.Cond.classLink "LogDiskLaw" (15 : Nat) "java/lang/IllegalStateException") ∈ gTb := gT_2 189 rfl rfl
theorem gw_430 : (Jvm.Cond.methodLink "LogDiskLaw" (7 : Nat) ({ cls := "LogDisk", name := "feed", desc := "(JI)I" } : Jvm.MethodName)) ∈ gTb := gT_2 190 rfl rfl
theorem gw_431 : (Jvm.Cond.instanceMethod ({ cls := "LogDisk", name := "feed", desc := "(JI)I" } : Jvm.MethodName)) ∈ gTb := gT_2 191 rfl rfl
theorem gw_432 : (Jvm.Cond.selects "LogDisk" ({ cls := "LogDisk", name := "feed", desc := "(JI)I" } : Jvm.MethodName) ({ cls := "LogDisk", name := "feed", desc := "(JI)I" } : Jvm.MethodName)) ∈ gTb := gT_2 192 rfl rfl
theorem gw_433 : (Jvm.Cond.code ({ cls := "LogDisk", name := "feed", desc := "(JI)I" } : Jvm.MethodName) prog_1_method_2_code (5 : Nat) (Option.some Jvm.ClassFile.FieldType.int)) ∈ gTb := gT_2 193 rfl rfl
theorem gw_434 : (Jvm.Cond.classLink "LogDisk" (89 : Nat) "java/lang/IllegalArgumentException") ∈ gTb := gT_2 194 rfl rfl
theorem gw_435 : (Jvm.Cond.instantiable "java/lang/IllegalArgumentException" (6 : Nat)) ∈ gTb := gT_2 195 rfl rfl
theorem gw_443 : (Jvm.Cond.selects "java/lang/IllegalArgumentException" ({ cls := "java/lang/Throwable", name := "fillInStackTrace", desc := "(I)Ljava/lang/Throwable;" } : Jvm.MethodName) ({ cls := "java/lang/Throwable", name := "fillInStackTrace", desc := "(I)Ljava/lang/Throwable;" } : Jvm.MethodName)) ∈ gTb := gT_2 203 rfl rfl
theorem gw_444 : (Jvm.Cond.selects "java/lang/IllegalArgumentException" ({ cls := "java/lang/Throwable", name := "fillInStackTrace", desc := "()Ljava/lang/Throwable;" } : Jvm.MethodName) ({ cls := "java/lang/Throwable", name := "fillInStackTrace", desc := "()Ljava/lang/Throwable;" } : Jvm.MethodName)) ∈ gTb := gT_2 204 rfl rfl
theorem gw_445 : (Jvm.Cond.lays "java/lang/IllegalArgumentException" "java/lang/Throwable" "cause" "Ljava/lang/Throwable;") ∈ gTb := gT_2 205 rfl rfl
theorem gw_446 : (Jvm.Cond.lays "java/lang/Throwable" "java/lang/Throwable" "cause" "Ljava/lang/Throwable;") ∈ gTb := gT_2 206 rfl rfl
theorem gw_447 : (Jvm.Cond.lays "java/lang/IllegalArgumentException" "java/lang/Throwable" "stackTrace" "[Ljava/lang/StackTraceElement;") ∈ gTb := gT_2 207 rfl rfl
theorem gw_448 : (Jvm.Cond.lays "java/lang/Throwable" "java/lang/Throwable" "stackTrace" "[Ljava/lang/StackTraceElement;") ∈ gTb := gT_2 208 rfl rfl
theorem gw_449 : (Jvm.Cond.lays "java/lang/IllegalArgumentException" "java/lang/Throwable" "suppressedExceptions" "Ljava/util/List;") ∈ gTb := gT_2 209 rfl rfl
theorem gw_450 : (Jvm.Cond.lays "java/lang/Throwable" "java/lang/Throwable" "suppressedExceptions" "Ljava/util/List;") ∈ gTb := gT_2 210 rfl rfl
theorem gw_451 : (Jvm.Cond.lays "java/lang/IllegalArgumentException" "java/lang/Throwable" "detailMessage" "Ljava/lang/String;") ∈ gTb := gT_2 211 rfl rfl
theorem gw_452 : (Jvm.Cond.lays "java/lang/Throwable" "java/lang/Throwable" "detailMessage" "Ljava/lang/String;") ∈ gTb := gT_2 212 rfl rfl
theorem gw_453 : (Jvm.Cond.lays "java/lang/IllegalArgumentException" "java/lang/Throwable" "backtrace" "Ljava/lang/Object;") ∈ gTb := gT_2 213 rfl rfl
theorem gw_454 : (Jvm.Cond.lays "java/lang/Throwable" "java/lang/Throwable" "backtrace" "Ljava/lang/Object;") ∈ gTb := gT_2 214 rfl rfl
theorem gw_455 : (Jvm.Cond.fieldLink "java/lang/Throwable" (198 : Nat) "java/lang/Throwable" "backtrace" "Ljava/lang/Object;") ∈ gTb := gT_2 215 rfl rfl
theorem gw_457 : (Jvm.Cond.instanceMethod ({ cls := "java/lang/Throwable", name := "<init>", desc := "()V" } : Jvm.MethodName)) ∈ gTb := gT_2 217 rfl rfl
theorem gw_458 : (Jvm.Cond.code ({ cls := "java/lang/Throwable", name := "<init>", desc := "()V" } : Jvm.MethodName) prog_21_method_1_code (1 : Nat) (Option.none : Option Jvm.ClassFile.FieldType)) ∈ gTb := gT_2 218 rfl rfl
theorem gw_459 : (Jvm.Cond.methodLink "java/lang/Throwable" (1 : Nat) ({ cls := "java/lang/Object", name := "<init>", desc := "()V" } : Jvm.MethodName)) ∈ gTb := gT_2 219 rfl rfl
theorem gw_460 : (Jvm.Cond.fieldLink "java/lang/Throwable" (13 : Nat) "java/lang/Throwable" "UNASSIGNED_STACK" "[Ljava/lang/StackTraceElement;") ∈ gTb := gT_2 220 rfl rfl
theorem gw_462 : (Jvm.Cond.fieldLink "java/lang/Throwable" (20 : Nat) "java/lang/Throwable" "SUPPRESSED_SENTINEL" "Ljava/util/List;") ∈ gTb := gT_2 222 rfl rfl
theorem gw_464 : (Jvm.Cond.methodLink "java/lang/Throwable" (27 : Nat) ({ cls := "java/lang/Throwable", name := "fillInStackTrace", desc := "()Ljava/lang/Throwable;" } : Jvm.MethodName)) ∈ gTb := gT_2 224 rfl rfl
theorem gw_465 : (Jvm.Cond.instanceMethod ({ cls := "java/lang/Throwable", name := "fillInStackTrace", desc := "()Ljava/lang/Throwable;" } : Jvm.MethodName)) ∈ gTb := gT_2 225 rfl rfl
theorem gw_466 : (Jvm.Cond.sameMethod "java/lang/Throwable" "java/lang/Throwable" "fillInStackTrace" "()Ljava/lang/Throwable;") ∈ gTb := gT_2 226 rfl rfl
theorem gw_467 : (Jvm.Cond.selects "java/lang/IllegalStateException" ({ cls := "java/lang/Throwable", name := "fillInStackTrace", desc := "()Ljava/lang/Throwable;" } : Jvm.MethodName) ({ cls := "java/lang/Throwable", name := "fillInStackTrace", desc := "()Ljava/lang/Throwable;" } : Jvm.MethodName)) ∈ gTb := gT_2 227 rfl rfl
theorem gw_468 : (Jvm.Cond.selects "java/lang/IndexOutOfBoundsException" ({ cls := "java/lang/Throwable", name := "fillInStackTrace", desc := "()Ljava/lang/Throwable;" } : Jvm.MethodName) ({ cls := "java/lang/Throwable", name := "fillInStackTrace", desc := "()Ljava/lang/Throwable;" } : Jvm.MethodName)) ∈ gTb := gT_2 228 rfl rfl
theorem gw_469 : (Jvm.Cond.selects "java/lang/UnsupportedOperationException" ({ cls := "java/lang/Throwable", name := "fillInStackTrace", desc := "()Ljava/lang/Throwable;" } : Jvm.MethodName) ({ cls := "java/lang/Throwable", name := "fillInStackTrace", desc := "()Ljava/lang/Throwable;" } : Jvm.MethodName)) ∈ gTb := gT_2 229 rfl rfl
theorem gw_470 : (Jvm.Cond.selects "java/util/NoSuchElementException" ({ cls := "java/lang/Throwable", name := "fillInStackTrace", desc := "()Ljava/lang/Throwable;" } : Jvm.MethodName) ({ cls := "java/lang/Throwable", name := "fillInStackTrace", desc := "()Ljava/lang/Throwable;" } : Jvm.MethodName)) ∈ gTb := gT_2 230 rfl rfl
theorem gw_471 : (Jvm.Cond.codeSync ({ cls := "java/lang/Throwable", name := "fillInStackTrace", desc := "()Ljava/lang/Throwable;" } : Jvm.MethodName) prog_21_method_18_code (1 : Nat) (Option.some (Jvm.ClassFile.FieldType.object "java/lang/Throwable"))) ∈ gTb := gT_2 231 rfl rfl
theorem gw_472 : (Jvm.Cond.methodLink "java/lang/Throwable" (202 : Nat) ({ cls := "java/lang/Throwable", name := "fillInStackTrace", desc := "(I)Ljava/lang/Throwable;" } : Jvm.MethodName)) ∈ gTb := gT_2 232 rfl rfl
theorem gw_474 : (Jvm.Cond.instanceMethod ({ cls := "java/lang/Throwable", name := "fillInStackTrace", desc := "(I)Ljava/lang/Throwable;" } : Jvm.MethodName)) ∈ gTb := gT_2 234 rfl rfl
theorem gw_475 : (Jvm.Cond.instantiable "java/lang/Throwable" (6 : Nat)) ∈ gTb := gT_2 235 rfl rfl
theorem gw_476 : (Jvm.Cond.native ({ cls := "java/lang/Throwable", name := "fillInStackTrace", desc := "(I)Ljava/lang/Throwable;" } : Jvm.MethodName)) ∈ gTb := gT_2 236 rfl rfl
theorem gw_478 : (Jvm.Cond.methodLink "LogDisk" (93 : Nat) ({ cls := "java/lang/IllegalArgumentException", name := "<init>", desc := "(Ljava/lang/String;)V" } : Jvm.MethodName)) ∈ gTb := gT_2 238 rfl rfl
theorem gw_479 : (Jvm.Cond.instanceMethod ({ cls := "java/lang/IllegalArgumentException", name := "<init>", desc := "(Ljava/lang/String;)V" } : Jvm.MethodName)) ∈ gTb := gT_2 239 rfl rfl
theorem gw_480 : (Jvm.Cond.code ({ cls := "java/lang/IllegalArgumentException", name := "<init>", desc := "(Ljava/lang/String;)V" } : Jvm.MethodName) prog_14_method_2_code (2 : Nat) (Option.none : Option Jvm.ClassFile.FieldType)) ∈ gTb := gT_3 0 rfl rfl
theorem gw_481 : (Jvm.Cond.methodLink "java/lang/IllegalArgumentException" (7 : Nat) ({ cls := "java/lang/RuntimeException", name := "<init>", desc := "(Ljava/lang/String;)V" } : Jvm.MethodName)) ∈ gTb := gT_3 1 rfl rfl
theorem gw_482 : (Jvm.Cond.instanceMethod ({ cls := "java/lang/RuntimeException", name := "<init>", desc := "(Ljava/lang/String;)V" } : Jvm.MethodName)) ∈ gTb := gT_3 2 rfl rfl
theorem gw_483 : (Jvm.Cond.code ({ cls := "java/lang/RuntimeException", name := "<init>", desc := "(Ljava/lang/String;)V" } : Jvm.MethodName) prog_18_method_2_code (2 : Nat) (Option.none : Option Jvm.ClassFile.FieldType)) ∈ gTb := gT_3 3 rfl rfl
theorem gw_484 : (Jvm.Cond.methodLink "java/lang/RuntimeException" (7 : Nat) ({ cls := "java/lang/Exception", name := "<init>", desc := "(Ljava/lang/String;)V" } : Jvm.MethodName)) ∈ gTb := gT_3 4 rfl rfl
theorem gw_485 : (Jvm.Cond.instanceMethod ({ cls := "java/lang/Exception", name := "<init>", desc := "(Ljava/lang/String;)V" } : Jvm.MethodName)) ∈ gTb := gT_3 5 rfl rfl
theorem gw_486 : (Jvm.Cond.code ({ cls := "java/lang/Exception", name := "<init>", desc := "(Ljava/lang/String;)V" } : Jvm.MethodName) prog_13_method_2_code (2 : Nat) (Option.none : Option Jvm.ClassFile.FieldType)) ∈ gTb := gT_3 6 rfl rfl
theorem gw_487 : (Jvm.Cond.methodLink "java/lang/Exception" (7 : Nat) ({ cls := "java/lang/Throwable", name := "<init>", desc := "(Ljava/lang/String;)V" } : Jvm.MethodName)) ∈ gTb := gT_3 7 rfl rfl
theorem gw_488 : (Jvm.Cond.instanceMethod ({ cls := "java/lang/Throwable", name := "<init>", desc := "(Ljava/lang/String;)V" } : Jvm.MethodName)) ∈ gTb := gT_3 8 rfl rfl
theorem gw_489 : (Jvm.Cond.code ({ cls := "java/lang/Throwable", name := "<init>", desc := "(Ljava/lang/String;)V" } : Jvm.MethodName) prog_21_method_2_code (2 : Nat) (Option.none : Option Jvm.ClassFile.FieldType)) ∈ gTb := gT_3 9 rfl rfl
theorem gw_490 : (Jvm.Cond.fieldLink "java/lang/Throwable" (198 : Nat) "java/lang/Throwable" "backtrace" "Ljava/lang/Object;") ∈ gTb := gT_3 10 rfl rfl
theorem gw_491 : (Jvm.Cond.fieldLink "java/lang/Throwable" (31 : Nat) "java/lang/Throwable" "detailMessage" "Ljava/lang/String;") ∈ gTb := gT_3 11 rfl rfl
theorem gw_492 : (Jvm.Cond.fieldLink "java/lang/Throwable" (7 : Nat) "java/lang/Throwable" "cause" "Ljava/lang/Throwable;") ∈ gTb := gT_3 12 rfl rfl
theorem gw_493 : (Jvm.Cond.fieldLink "java/lang/Throwable" (17 : Nat) "java/lang/Throwable" "stackTrace" "[Ljava/lang/StackTraceElement;") ∈ gTb := gT_3 13 rfl rfl
theorem gw_494 : (Jvm.Cond.fieldLink "java/lang/Throwable" (24 : Nat) "java/lang/Throwable" "suppressedExceptions" "Ljava/util/List;") ∈ gTb := gT_3 14 rfl rfl
theorem gw_499 : (Jvm.Cond.lays "java/lang/IllegalArgumentException" "java/lang/Throwable" "depth" "I") ∈ gTb := gT_3 19 rfl rfl
theorem gw_503 : (Jvm.Cond.classLink "LogDisk" (99 : Nat) "java/lang/IllegalStateException") ∈ gTb := gT_3 23 rfl rfl
theorem gw_504 : (Jvm.Cond.instantiable "java/lang/IllegalStateException" (6 : Nat)) ∈ gTb := gT_3 24 rfl rfl
theorem gw_506 : (Jvm.Cond.selects "java/lang/IllegalStateException" ({ cls := "java/lang/Throwable", name := "fillInStackTrace", desc := "(I)Ljava/lang/Throwable;" } : Jvm.MethodName) ({ cls := "java/lang/Throwable", name := "fillInStackTrace", desc := "(I)Ljava/lang/Throwable;" } : Jvm.MethodName)) ∈ gTb := gT_3 26 rfl rfl
theorem gw_507 : (Jvm.Cond.lays "java/lang/IllegalStateException" "java/lang/Throwable" "cause" "Ljava/lang/Throwable;") ∈ gTb := gT_3 27 rfl rfl
theorem gw_508 : (Jvm.Cond.lays "java/lang/IllegalStateException" "java/lang/Throwable" "stackTrace" "[Ljava/lang/StackTraceElement;") ∈ gTb := gT_3 28 rfl rfl
theorem gw_509 : (Jvm.Cond.lays "java/lang/IllegalStateException" "java/lang/Throwable" "suppressedExceptions" "Ljava/util/List;") ∈ gTb := gT_3 29 rfl rfl
theorem gw_510 : (Jvm.Cond.lays "java/lang/IllegalStateException" "java/lang/Throwable" "detailMessage" "Ljava/lang/String;") ∈ gTb := gT_3 30 rfl rfl
theorem gw_511 : (Jvm.Cond.lays "java/lang/IllegalStateException" "java/lang/Throwable" "backtrace" "Ljava/lang/Object;") ∈ gTb := gT_3 31 rfl rfl
theorem gw_513 : (Jvm.Cond.methodLink "LogDisk" (103 : Nat) ({ cls := "java/lang/IllegalStateException", name := "<init>", desc := "(Ljava/lang/String;)V" } : Jvm.MethodName)) ∈ gTb := gT_3 33 rfl rfl
theorem gw_514 : (Jvm.Cond.instanceMethod ({ cls := "java/lang/IllegalStateException", name := "<init>", desc := "(Ljava/lang/String;)V" } : Jvm.MethodName)) ∈ gTb := gT_3 34 rfl rfl
theorem gw_515 : (Jvm.Cond.code ({ cls := "java/lang/IllegalStateException", name := "<init>", desc := "(Ljava/lang/String;)V" } : Jvm.MethodName) prog_15_method_2_code (2 : Nat) (Option.none : Option Jvm.ClassFile.FieldType)) ∈ gTb := gT_3 35 rfl rfl
theorem gw_516 : (Jvm.Cond.methodLink "java/lang/IllegalStateException" (7 : Nat) ({ cls := "java/lang/RuntimeException", name := "<init>", desc := "(Ljava/lang/String;)V" } : Jvm.MethodName)) ∈ gTb := gT_3 36 rfl rfl
theorem gw_517 : (Jvm.Cond.lays "java/lang/IllegalStateException" "java/lang/Throwable" "depth" "I") ∈ gTb := gT_3 37 rfl rfl
theorem gw_519 : (Jvm.Cond.methodLink "LogDiskLaw" (87 : Nat) ({ cls := "LogDiskLaw", name := "save", desc := "(LLogDisk;II[J)I" } : Jvm.MethodName)) ∈ gTb := gT_3 39 rfl rfl
theorem gw_520 : (Jvm.Cond.static ({ cls := "LogDiskLaw", name := "save", desc := "(LLogDisk;II[J)I" } : Jvm.MethodName)) ∈ gTb := gT_3 40 rfl rfl
theorem gw_521 : (Jvm.Cond.codeWith ({ cls := "LogDiskLaw", name := "save", desc := "(LLogDisk;II[J)I" } : Jvm.MethodName) method_4_code (5 : Nat) (Option.some Jvm.ClassFile.FieldType.int) [((0 : Nat), (10 : Nat), (13 : Nat), (13 : Nat)), ((0 : Nat), (10 : Nat), (17 : Nat), (21 : Nat))]) ∈ gTb := gT_3 41 rfl rfl
theorem gw_522 : (Jvm.Cond.classLink "LogDiskLaw" (21 : Nat) "java/lang/UnsupportedOperationException") ∈ gTb := gT_3 42 rfl rfl
theorem gw_523 : (Jvm.Cond.methodLink "LogDiskLaw" (17 : Nat) ({ cls := "LogDisk", name := "save", desc := "(II)I" } : Jvm.MethodName)) ∈ gTb := gT_3 43 rfl rfl
theorem gw_524 : (Jvm.Cond.instanceMethod ({ cls := "LogDisk", name := "save", desc := "(II)I" } : Jvm.MethodName)) ∈ gTb := gT_3 44 rfl rfl
theorem gw_525 : (Jvm.Cond.selects "LogDisk" ({ cls := "LogDisk", name := "save", desc := "(II)I" } : Jvm.MethodName) ({ cls := "LogDisk", name := "save", desc := "(II)I" } : Jvm.MethodName)) ∈ gTb := gT_3 45 rfl rfl
theorem gw_526 : (Jvm.Cond.code ({ cls := "LogDisk", name := "save", desc := "(II)I" } : Jvm.MethodName) prog_1_method_3_code (4 : Nat) (Option.some Jvm.ClassFile.FieldType.int)) ∈ gTb := gT_3 46 rfl rfl
theorem gw_527 : (Jvm.Cond.constant "LogDisk" (111 : Nat) (1000000 : Int32)) ∈ gTb := gT_3 47 rfl rfl
theorem gw_530 : (Jvm.Cond.methodLink "LogDisk" (116 : Nat) ({ cls := "LogDisk$Vote", name := "nextFile", desc := "()I" } : Jvm.MethodName)) ∈ gTb := gT_3 50 rfl rfl
theorem gw_531 : (Jvm.Cond.instanceMethod ({ cls := "LogDisk$Vote", name := "nextFile", desc := "()I" } : Jvm.MethodName)) ∈ gTb := gT_3 51 rfl rfl
theorem gw_532 : (Jvm.Cond.selects "LogDisk$Vote" ({ cls := "LogDisk$Vote", name := "nextFile", desc := "()I" } : Jvm.MethodName) ({ cls := "LogDisk$Vote", name := "nextFile", desc := "()I" } : Jvm.MethodName)) ∈ gTb := gT_3 52 rfl rfl
theorem gw_533 : (Jvm.Cond.code ({ cls := "LogDisk$Vote", name := "nextFile", desc := "()I" } : Jvm.MethodName) prog_10_method_4_code (1 : Nat) (Option.some Jvm.ClassFile.FieldType.int)) ∈ gTb := gT_3 53 rfl rfl
theorem gw_534 : (Jvm.Cond.methodLink "LogDisk" (120 : Nat) ({ cls := "LogDisk$DiskFile", name := "canRewrite", desc := "(I)Z" } : Jvm.MethodName)) ∈ gTb := gT_3 54 rfl rfl
theorem gw_535 : (Jvm.Cond.instanceMethod ({ cls := "LogDisk$DiskFile", name := "canRewrite", desc := "(I)Z" } : Jvm.MethodName)) ∈ gTb := gT_3 55 rfl rfl
theorem gw_536 : (Jvm.Cond.selects "LogDisk$DiskFile" ({ cls := "LogDisk$DiskFile", name := "canRewrite", desc := "(I)Z" } : Jvm.MethodName) ({ cls := "LogDisk$DiskFile", name := "canRewrite", desc := "(I)Z" } : Jvm.MethodName)) ∈ gTb := gT_3 56 rfl rfl
theorem gw_537 : (Jvm.Cond.code ({ cls := "LogDisk$DiskFile", name := "canRewrite", desc := "(I)Z" } : Jvm.MethodName) prog_3_method_5_code (5 : Nat) (Option.some Jvm.ClassFile.FieldType.boolean)) ∈ gTb := gT_3 57 rfl rfl
theorem gw_539 : (Jvm.Cond.methodLink "LogDisk$DiskFile" (39 : Nat) ({ cls := "LogDisk$DiskFile", name := "isShared", desc := "(I)Z" } : Jvm.MethodName)) ∈ gTb := gT_3 59 rfl rfl
theorem gw_540 : (Jvm.Cond.instanceMethod ({ cls := "LogDisk$DiskFile", name := "isShared", desc := "(I)Z" } : Jvm.MethodName)) ∈ gTb := gT_3 60 rfl rfl
theorem gw_541 : (Jvm.Cond.selects "LogDisk$DiskFile" ({ cls := "LogDisk$DiskFile", name := "isShared", desc := "(I)Z" } : Jvm.MethodName) ({ cls := "LogDisk$DiskFile", name := "isShared", desc := "(I)Z" } : Jvm.MethodName)) ∈ gTb := gT_3 61 rfl rfl
theorem gw_542 : (Jvm.Cond.code ({ cls := "LogDisk$DiskFile", name := "isShared", desc := "(I)Z" } : Jvm.MethodName) prog_3_method_2_code (2 : Nat) (Option.some Jvm.ClassFile.FieldType.boolean)) ∈ gTb := gT_3 62 rfl rfl
theorem gw_543 : (Jvm.Cond.classLink "LogDisk" (124 : Nat) "java/lang/UnsupportedOperationException") ∈ gTb := gT_3 63 rfl rfl
theorem gw_544 : (Jvm.Cond.instantiable "java/lang/UnsupportedOperationException" (6 : Nat)) ∈ gTb := gT_3 64 rfl rfl
theorem gw_546 : (Jvm.Cond.selects "java/lang/UnsupportedOperationException" ({ cls := "java/lang/Throwable", name := "fillInStackTrace", desc := "(I)Ljava/lang/Throwable;" } : Jvm.MethodName) ({ cls := "java/lang/Throwable", name := "fillInStackTrace", desc := "(I)Ljava/lang/Throwable;" } : Jvm.MethodName)) ∈ gTb := gT_3 66 rfl rfl
theorem gw_547 : (Jvm.Cond.lays "java/lang/UnsupportedOperationException" "java/lang/Throwable" "cause" "Ljava/lang/Throwable;") ∈ gTb := gT_3 67 rfl rfl
theorem gw_548 : (Jvm.Cond.lays "java/lang/UnsupportedOperationException" "java/lang/Throwable" "stackTrace" "[Ljava/lang/StackTraceElement;") ∈ gTb := gT_3 68 rfl rfl
theorem gw_549 : (Jvm.Cond.lays "java/lang/UnsupportedOperationException" "java/lang/Throwable" "suppressedExceptions" "Ljava/util/List;") ∈ gTb := gT_3 69 rfl rfl
theorem gw_550 : (Jvm.Cond.lays "java/lang/UnsupportedOperationException" "java/lang/Throwable" "detailMessage" "Ljava/lang/String;") ∈ gTb := gT_3 70 rfl rfl
theorem gw_551 : (Jvm.Cond.lays "java/lang/UnsupportedOperationException" "java/lang/Throwable" "backtrace" "Ljava/lang/Object;") ∈ gTb := gT_3 71 rfl rfl
theorem gw_553 : (Jvm.Cond.methodLink "LogDisk" (128 : Nat) ({ cls := "java/lang/UnsupportedOperationException", name := "<init>", desc := "(Ljava/lang/String;)V" } : Jvm.MethodName)) ∈ gTb := gT_3 73 rfl rfl
theorem gw_554 : (Jvm.Cond.instanceMethod ({ cls := "java/lang/UnsupportedOperationException", name := "<init>", desc := "(Ljava/lang/String;)V" } : Jvm.MethodName)) ∈ gTb := gT_3 74 rfl rfl
theorem gw_555 : (Jvm.Cond.code ({ cls := "java/lang/UnsupportedOperationException", name := "<init>", desc := "(Ljava/lang/String;)V" } : Jvm.MethodName) prog_22_method_2_code (2 : Nat) (Option.none : Option Jvm.ClassFile.FieldType)) ∈ gTb := gT_3 75 rfl rfl
theorem gw_556 : (Jvm.Cond.methodLink "java/lang/UnsupportedOperationException" (7 : Nat) ({ cls := "java/lang/RuntimeException", name := "<init>", desc := "(Ljava/lang/String;)V" } : Jvm.MethodName)) ∈ gTb := gT_3 76 rfl rfl
theorem gw_557 : (Jvm.Cond.lays "java/lang/UnsupportedOperationException" "java/lang/Throwable" "depth" "I") ∈ gTb := gT_3 77 rfl rfl
theorem gw_559 : (Jvm.Cond.methodLink "LogDisk" (141 : Nat) ({ cls := "LogDisk", name := "writeVote", desc := "()V" } : Jvm.MethodName)) ∈ gTb := gT_3 79 rfl rfl
theorem gw_561 : (Jvm.Cond.instanceMethod ({ cls := "LogDisk", name := "writeVote", desc := "()V" } : Jvm.MethodName)) ∈ gTb := gT_3 81 rfl rfl
theorem gw_562 : (Jvm.Cond.code ({ cls := "LogDisk", name := "writeVote", desc := "()V" } : Jvm.MethodName) prog_1_method_24_code (1 : Nat) (Option.none : Option Jvm.ClassFile.FieldType)) ∈ gTb := gT_3 82 rfl rfl
theorem gw_563 : (Jvm.Cond.methodLink "LogDisk" (298 : Nat) ({ cls := "LogDisk$Frame", name := "begin", desc := "()V" } : Jvm.MethodName)) ∈ gTb := gT_3 83 rfl rfl
theorem gw_564 : (Jvm.Cond.instanceMethod ({ cls := "LogDisk$Frame", name := "begin", desc := "()V" } : Jvm.MethodName)) ∈ gTb := gT_3 84 rfl rfl
theorem gw_565 : (Jvm.Cond.selects "LogDisk$Frame" ({ cls := "LogDisk$Frame", name := "begin", desc := "()V" } : Jvm.MethodName) ({ cls := "LogDisk$Frame", name := "begin", desc := "()V" } : Jvm.MethodName)) ∈ gTb := gT_3 85 rfl rfl
theorem gw_566 : (Jvm.Cond.code ({ cls := "LogDisk$Frame", name := "begin", desc := "()V" } : Jvm.MethodName) prog_5_method_2_code (1 : Nat) (Option.none : Option Jvm.ClassFile.FieldType)) ∈ gTb := gT_3 86 rfl rfl
theorem gw_567 : (Jvm.Cond.methodLink "LogDisk" (301 : Nat) ({ cls := "LogDisk$Frame", name := "add", desc := "(JI)V" } : Jvm.MethodName)) ∈ gTb := gT_3 87 rfl rfl
theorem gw_568 : (Jvm.Cond.instanceMethod ({ cls := "LogDisk$Frame", name := "add", desc := "(JI)V" } : Jvm.MethodName)) ∈ gTb := gT_3 88 rfl rfl
theorem gw_569 : (Jvm.Cond.selects "LogDisk$Frame" ({ cls := "LogDisk$Frame", name := "add", desc := "(JI)V" } : Jvm.MethodName) ({ cls := "LogDisk$Frame", name := "add", desc := "(JI)V" } : Jvm.MethodName)) ∈ gTb := gT_3 89 rfl rfl
theorem gw_570 : (Jvm.Cond.code ({ cls := "LogDisk$Frame", name := "add", desc := "(JI)V" } : Jvm.MethodName) prog_5_method_3_code (4 : Nat) (Option.none : Option Jvm.ClassFile.FieldType)) ∈ gTb := gT_3 90 rfl rfl
theorem gw_571 : (Jvm.Cond.methodLink "LogDisk$Frame" (19 : Nat) ({ cls := "LogDisk$Frame", name := "put", desc := "(IJI)V" } : Jvm.MethodName)) ∈ gTb := gT_3 91 rfl rfl
theorem gw_572 : (Jvm.Cond.instanceMethod ({ cls := "LogDisk$Frame", name := "put", desc := "(IJI)V" } : Jvm.MethodName)) ∈ gTb := gT_3 92 rfl rfl
theorem gw_573 : (Jvm.Cond.selects "LogDisk$Frame" ({ cls := "LogDisk$Frame", name := "put", desc := "(IJI)V" } : Jvm.MethodName) ({ cls := "LogDisk$Frame", name := "put", desc := "(IJI)V" } : Jvm.MethodName)) ∈ gTb := gT_3 93 rfl rfl
theorem gw_574 : (Jvm.Cond.code ({ cls := "LogDisk$Frame", name := "put", desc := "(IJI)V" } : Jvm.MethodName) prog_5_method_6_code (6 : Nat) (Option.none : Option Jvm.ClassFile.FieldType)) ∈ gTb := gT_3 94 rfl rfl
theorem gw_575 : (Jvm.Cond.methodLink "LogDisk" (305 : Nat) ({ cls := "LogDisk$Frame", name := "close", desc := "()V" } : Jvm.MethodName)) ∈ gTb := gT_3 95 rfl rfl
theorem gw_576 : (Jvm.Cond.instanceMethod ({ cls := "LogDisk$Frame", name := "close", desc := "()V" } : Jvm.MethodName)) ∈ gTb := gT_3 96 rfl rfl
theorem gw_577 : (Jvm.Cond.selects "LogDisk$Frame" ({ cls := "LogDisk$Frame", name := "close", desc := "()V" } : Jvm.MethodName) ({ cls := "LogDisk$Frame", name := "close", desc := "()V" } : Jvm.MethodName)) ∈ gTb := gT_3 97 rfl rfl
theorem gw_578 : (Jvm.Cond.code ({ cls := "LogDisk$Frame", name := "close", desc := "()V" } : Jvm.MethodName) prog_5_method_5_code (3 : Nat) (Option.none : Option Jvm.ClassFile.FieldType)) ∈ gTb := gT_3 98 rfl rfl
theorem gw_580 : (Jvm.Cond.methodLink "LogDisk" (311 : Nat) ({ cls := "LogDisk$DiskFile", name := "write", desc := "([BI)V" } : Jvm.MethodName)) ∈ gTb := gT_3 100 rfl rfl
theorem gw_581 : (Jvm.Cond.instanceMethod ({ cls := "LogDisk$DiskFile", name := "write", desc := "([BI)V" } : Jvm.MethodName)) ∈ gTb := gT_3 101 rfl rfl
theorem gw_582 : (Jvm.Cond.selects "LogDisk$DiskFile" ({ cls := "LogDisk$DiskFile", name := "write", desc := "([BI)V" } : Jvm.MethodName) ({ cls := "LogDisk$DiskFile", name := "write", desc := "([BI)V" } : Jvm.MethodName)) ∈ gTb := gT_3 102 rfl rfl
theorem gw_583 : (Jvm.Cond.code ({ cls := "LogDisk$DiskFile", name := "write", desc := "([BI)V" } : Jvm.MethodName) prog_3_method_6_code (8 : Nat) (Option.none : Option Jvm.ClassFile.FieldType)) ∈ gTb := gT_3 103 rfl rfl
theorem gw_584 : (Jvm.Cond.methodLink "LogDisk$DiskFile" (43 : Nat) ({ cls := "LogDisk$DiskFile", name := "mustCopyLastPage", desc := "()Z" } : Jvm.MethodName)) ∈ gTb := gT_3 104 rfl rfl
theorem gw_585 : (Jvm.Cond.instanceMethod ({ cls := "LogDisk$DiskFile", name := "mustCopyLastPage", desc := "()Z" } : Jvm.MethodName)) ∈ gTb := gT_3 105 rfl rfl
theorem gw_586 : (Jvm.Cond.selects "LogDisk$DiskFile" ({ cls := "LogDisk$DiskFile", name := "mustCopyLastPage", desc := "()Z" } : Jvm.MethodName) ({ cls := "LogDisk$DiskFile", name := "mustCopyLastPage", desc := "()Z" } : Jvm.MethodName)) ∈ gTb := gT_3 106 rfl rfl
theorem gw_587 : (Jvm.Cond.code ({ cls := "LogDisk$DiskFile", name := "mustCopyLastPage", desc := "()Z" } : Jvm.MethodName) prog_3_method_3_code (1 : Nat) (Option.some Jvm.ClassFile.FieldType.boolean)) ∈ gTb := gT_3 107 rfl rfl
theorem gw_588 : (Jvm.Cond.methodLink "LogDisk$DiskFile" (52 : Nat) ({ cls := "LogDisk$DiskFile", name := "copyLastPage", desc := "()V" } : Jvm.MethodName)) ∈ gTb := gT_3 108 rfl rfl
theorem gw_589 : (Jvm.Cond.instanceMethod ({ cls := "LogDisk$DiskFile", name := "copyLastPage", desc := "()V" } : Jvm.MethodName)) ∈ gTb := gT_3 109 rfl rfl
theorem gw_590 : (Jvm.Cond.selects "LogDisk$DiskFile" ({ cls := "LogDisk$DiskFile", name := "copyLastPage", desc := "()V" } : Jvm.MethodName) ({ cls := "LogDisk$DiskFile", name := "copyLastPage", desc := "()V" } : Jvm.MethodName)) ∈ gTb := gT_3 110 rfl rfl
theorem gw_591 : (Jvm.Cond.code ({ cls := "LogDisk$DiskFile", name := "copyLastPage", desc := "()V" } : Jvm.MethodName) prog_3_method_7_code (4 : Nat) (Option.none : Option Jvm.ClassFile.FieldType)) ∈ gTb := gT_3 111 rfl rfl
theorem gw_592 : (Jvm.Cond.methodLink "LogDisk$DiskFile" (59 : Nat) ({ cls := "LogDisk$Pages", name := "seize", desc := "()I" } : Jvm.MethodName)) ∈ gTb := gT_3 112 rfl rfl
theorem gw_593 : (Jvm.Cond.instanceMethod ({ cls := "LogDisk$Pages", name := "seize", desc := "()I" } : Jvm.MethodName)) ∈ gTb := gT_3 113 rfl rfl
theorem gw_594 : (Jvm.Cond.selects "LogDisk$Pages" ({ cls := "LogDisk$Pages", name := "seize", desc := "()I" } : Jvm.MethodName) ({ cls := "LogDisk$Pages", name := "seize", desc := "()I" } : Jvm.MethodName)) ∈ gTb := gT_3 114 rfl rfl
theorem gw_595 : (Jvm.Cond.code ({ cls := "LogDisk$Pages", name := "seize", desc := "()I" } : Jvm.MethodName) prog_6_method_3_code (2 : Nat) (Option.some Jvm.ClassFile.FieldType.int)) ∈ gTb := gT_3 115 rfl rfl
theorem gw_596 : (Jvm.Cond.methodLink "LogDisk$DiskFile" (73 : Nat) ({ cls := "java/lang/System", name := "arraycopy", desc := "(Ljava/lang/Object;ILjava/lang/Object;II)V" } : Jvm.MethodName)) ∈ gTb := gT_3 116 rfl rfl
theorem gw_597 : (Jvm.Cond.static ({ cls := "java/lang/System", name := "arraycopy", desc := "(Ljava/lang/Object;ILjava/lang/Object;II)V" } : Jvm.MethodName)) ∈ gTb := gT_3 117 rfl rfl
theorem gw_598 : (Jvm.Cond.native ({ cls := "java/lang/System", name := "arraycopy", desc := "(Ljava/lang/Object;ILjava/lang/Object;II)V" } : Jvm.MethodName)) ∈ gTb := gT_3 118 rfl rfl
theorem gw_599 : (Jvm.Cond.methodLink "LogDisk$DiskFile" (79 : Nat) ({ cls := "LogDisk$Pages", name := "giveUp", desc := "(I)V" } : Jvm.MethodName)) ∈ gTb := gT_3 119 rfl rfl
theorem gw_600 : (Jvm.Cond.methodLink "LogDiskLaw" (91 : Nat) ({ cls := "LogDiskLaw", name := "append", desc := "(LLogDisk;II[J)I" } : Jvm.MethodName)) ∈ gTb := gT_3 120 rfl rfl
theorem gw_601 : (Jvm.Cond.static ({ cls := "LogDiskLaw", name := "append", desc := "(LLogDisk;II[J)I" } : Jvm.MethodName)) ∈ gTb := gT_3 121 rfl rfl
theorem gw_602 : (Jvm.Cond.codeWith ({ cls := "LogDiskLaw", name := "append", desc := "(LLogDisk;II[J)I" } : Jvm.MethodName) method_5_code (5 : Nat) (Option.some Jvm.ClassFile.FieldType.int) [((0 : Nat), (10 : Nat), (13 : Nat), (13 : Nat)), ((0 : Nat), (10 : Nat), (17 : Nat), (15 : Nat)), ((0 : Nat), (10 : Nat), (21 : Nat), (21 : Nat))]) ∈ gTb := gT_3 122 rfl rfl
theorem gw_603 : (Jvm.Cond.methodLink "LogDiskLaw" (23 : Nat) ({ cls := "LogDisk", name := "append", desc := "(II)I" } : Jvm.MethodName)) ∈ gTb := gT_3 123 rfl rfl
theorem gw_604 : (Jvm.Cond.instanceMethod ({ cls := "LogDisk", name := "append", desc := "(II)I" } : Jvm.MethodName)) ∈ gTb := gT_3 124 rfl rfl
theorem gw_605 : (Jvm.Cond.selects "LogDisk" ({ cls := "LogDisk", name := "append", desc := "(II)I" } : Jvm.MethodName) ({ cls := "LogDisk", name := "append", desc := "(II)I" } : Jvm.MethodName)) ∈ gTb := gT_3 125 rfl rfl
theorem gw_606 : (Jvm.Cond.code ({ cls := "LogDisk", name := "append", desc := "(II)I" } : Jvm.MethodName) prog_1_method_4_code (7 : Nat) (Option.some Jvm.ClassFile.FieldType.int)) ∈ gTb := gT_3 126 rfl rfl
theorem gw_607 : (Jvm.Cond.methodLink "LogDisk" (147 : Nat) ({ cls := "LogDisk$Tape", name := "handOver", desc := "()I" } : Jvm.MethodName)) ∈ gTb := gT_3 127 rfl rfl
theorem gw_608 : (Jvm.Cond.instanceMethod ({ cls := "LogDisk$Tape", name := "handOver", desc := "()I" } : Jvm.MethodName)) ∈ gTb := gT_3 128 rfl rfl
theorem gw_609 : (Jvm.Cond.selects "LogDisk$Tape" ({ cls := "LogDisk$Tape", name := "handOver", desc := "()I" } : Jvm.MethodName) ({ cls := "LogDisk$Tape", name := "handOver", desc := "()I" } : Jvm.MethodName)) ∈ gTb := gT_3 129 rfl rfl
theorem gw_610 : (Jvm.Cond.code ({ cls := "LogDisk$Tape", name := "handOver", desc := "()I" } : Jvm.MethodName) prog_9_method_2_code (2 : Nat) (Option.some Jvm.ClassFile.FieldType.int)) ∈ gTb := gT_3 130 rfl rfl
theorem gw_611 : (Jvm.Cond.methodLink "LogDisk" (153 : Nat) ({ cls := "LogDisk", name := "termAt", desc := "(I)I" } : Jvm.MethodName)) ∈ gTb := gT_3 131 rfl rfl
theorem gw_613 : (Jvm.Cond.instanceMethod ({ cls := "LogDisk", name := "termAt", desc := "(I)I" } : Jvm.MethodName)) ∈ gTb := gT_3 133 rfl rfl
theorem gw_614 : (Jvm.Cond.code ({ cls := "LogDisk", name := "termAt", desc := "(I)I" } : Jvm.MethodName) prog_1_method_20_code (2 : Nat) (Option.some Jvm.ClassFile.FieldType.int)) ∈ gTb := gT_3 134 rfl rfl
theorem gw_615 : (Jvm.Cond.methodLink "LogDisk" (186 : Nat) ({ cls := "LogDisk", name := "isInLog", desc := "(I)Z" } : Jvm.MethodName)) ∈ gTb := gT_3 135 rfl rfl
theorem gw_617 : (Jvm.Cond.instanceMethod ({ cls := "LogDisk", name := "isInLog", desc := "(I)Z" } : Jvm.MethodName)) ∈ gTb := gT_3 137 rfl rfl
theorem gw_618 : (Jvm.Cond.code ({ cls := "LogDisk", name := "isInLog", desc := "(I)Z" } : Jvm.MethodName) prog_1_method_19_code (2 : Nat) (Option.some Jvm.ClassFile.FieldType.boolean)) ∈ gTb := gT_3 138 rfl rfl
theorem gw_622 : (Jvm.Cond.methodLink "LogDisk" (166 : Nat) ({ cls := "LogDisk", name := "needsNewSegment", desc := "()Z" } : Jvm.MethodName)) ∈ gTb := gT_3 142 rfl rfl
theorem gw_624 : (Jvm.Cond.instanceMethod ({ cls := "LogDisk", name := "needsNewSegment", desc := "()Z" } : Jvm.MethodName)) ∈ gTb := gT_3 144 rfl rfl
theorem gw_625 : (Jvm.Cond.code ({ cls := "LogDisk", name := "needsNewSegment", desc := "()Z" } : Jvm.MethodName) prog_1_method_22_code (1 : Nat) (Option.some Jvm.ClassFile.FieldType.boolean)) ∈ gTb := gT_3 145 rfl rfl
theorem gw_626 : (Jvm.Cond.methodLink "LogDisk" (173 : Nat) ({ cls := "LogDisk$Segments", name := "lastFile", desc := "()I" } : Jvm.MethodName)) ∈ gTb := gT_3 146 rfl rfl
theorem gw_627 : (Jvm.Cond.instanceMethod ({ cls := "LogDisk$Segments", name := "lastFile", desc := "()I" } : Jvm.MethodName)) ∈ gTb := gT_3 147 rfl rfl
theorem gw_628 : (Jvm.Cond.selects "LogDisk$Segments" ({ cls := "LogDisk$Segments", name := "lastFile", desc := "()I" } : Jvm.MethodName) ({ cls := "LogDisk$Segments", name := "lastFile", desc := "()I" } : Jvm.MethodName)) ∈ gTb := gT_3 148 rfl rfl
theorem gw_629 : (Jvm.Cond.code ({ cls := "LogDisk$Segments", name := "lastFile", desc := "()I" } : Jvm.MethodName) prog_7_method_3_code (1 : Nat) (Option.some Jvm.ClassFile.FieldType.int)) ∈ gTb := gT_3 149 rfl rfl
theorem gw_630 : (Jvm.Cond.methodLink "LogDisk" (170 : Nat) ({ cls := "LogDisk", name := "lowestFreeFile", desc := "()I" } : Jvm.MethodName)) ∈ gTb := gT_3 150 rfl rfl
theorem gw_632 : (Jvm.Cond.instanceMethod ({ cls := "LogDisk", name := "lowestFreeFile", desc := "()I" } : Jvm.MethodName)) ∈ gTb := gT_3 152 rfl rfl
theorem gw_633 : (Jvm.Cond.code ({ cls := "LogDisk", name := "lowestFreeFile", desc := "()I" } : Jvm.MethodName) prog_1_method_23_code (2 : Nat) (Option.some Jvm.ClassFile.FieldType.int)) ∈ gTb := gT_3 153 rfl rfl
theorem gw_634 : (Jvm.Cond.methodLink "LogDisk" (176 : Nat) ({ cls := "LogDisk$DiskFile", name := "canExtend", desc := "(I)Z" } : Jvm.MethodName)) ∈ gTb := gT_3 154 rfl rfl
theorem gw_635 : (Jvm.Cond.instanceMethod ({ cls := "LogDisk$DiskFile", name := "canExtend", desc := "(I)Z" } : Jvm.MethodName)) ∈ gTb := gT_3 155 rfl rfl
theorem gw_636 : (Jvm.Cond.selects "LogDisk$DiskFile" ({ cls := "LogDisk$DiskFile", name := "canExtend", desc := "(I)Z" } : Jvm.MethodName) ({ cls := "LogDisk$DiskFile", name := "canExtend", desc := "(I)Z" } : Jvm.MethodName)) ∈ gTb := gT_3 156 rfl rfl
theorem gw_637 : (Jvm.Cond.code ({ cls := "LogDisk$DiskFile", name := "canExtend", desc := "(I)Z" } : Jvm.MethodName) prog_3_method_4_code (4 : Nat) (Option.some Jvm.ClassFile.FieldType.boolean)) ∈ gTb := gT_3 157 rfl rfl
theorem gw_638 : (Jvm.Cond.methodLink "LogDisk" (179 : Nat) ({ cls := "LogDisk", name := "openSegment", desc := "(I)V" } : Jvm.MethodName)) ∈ gTb := gT_3 158 rfl rfl
theorem gw_640 : (Jvm.Cond.instanceMethod ({ cls := "LogDisk", name := "openSegment", desc := "(I)V" } : Jvm.MethodName)) ∈ gTb := gT_3 160 rfl rfl
theorem gw_641 : (Jvm.Cond.code ({ cls := "LogDisk", name := "openSegment", desc := "(I)V" } : Jvm.MethodName) prog_1_method_25_code (2 : Nat) (Option.none : Option Jvm.ClassFile.FieldType)) ∈ gTb := gT_3 161 rfl rfl
theorem gw_642 : (Jvm.Cond.methodLink "LogDisk" (182 : Nat) ({ cls := "LogDisk", name := "writeEntry", desc := "(IIII)V" } : Jvm.MethodName)) ∈ gTb := gT_3 162 rfl rfl
theorem gw_644 : (Jvm.Cond.instanceMethod ({ cls := "LogDisk", name := "writeEntry", desc := "(IIII)V" } : Jvm.MethodName)) ∈ gTb := gT_3 164 rfl rfl
theorem gw_645 : (Jvm.Cond.code ({ cls := "LogDisk", name := "writeEntry", desc := "(IIII)V" } : Jvm.MethodName) prog_1_method_26_code (5 : Nat) (Option.none : Option Jvm.ClassFile.FieldType)) ∈ gTb := gT_3 165 rfl rfl
theorem gw_646 : (Jvm.Cond.methodLink "LogDisk" (321 : Nat) ({ cls := "LogDisk$Frame", name := "addBytes", desc := "([BI)V" } : Jvm.MethodName)) ∈ gTb := gT_3 166 rfl rfl
theorem gw_647 : (Jvm.Cond.instanceMethod ({ cls := "LogDisk$Frame", name := "addBytes", desc := "([BI)V" } : Jvm.MethodName)) ∈ gTb := gT_3 167 rfl rfl
theorem gw_648 : (Jvm.Cond.selects "LogDisk$Frame" ({ cls := "LogDisk$Frame", name := "addBytes", desc := "([BI)V" } : Jvm.MethodName) ({ cls := "LogDisk$Frame", name := "addBytes", desc := "([BI)V" } : Jvm.MethodName)) ∈ gTb := gT_3 168 rfl rfl
theorem gw_649 : (Jvm.Cond.code ({ cls := "LogDisk$Frame", name := "addBytes", desc := "([BI)V" } : Jvm.MethodName) prog_5_method_4_code (3 : Nat) (Option.none : Option Jvm.ClassFile.FieldType)) ∈ gTb := gT_3 169 rfl rfl
theorem gw_650 : (Jvm.Cond.methodLink "LogDisk$Frame" (23 : Nat) ({ cls := "java/lang/System", name := "arraycopy", desc := "(Ljava/lang/Object;ILjava/lang/Object;II)V" } : Jvm.MethodName)) ∈ gTb := gT_3 170 rfl rfl
theorem gw_651 : (Jvm.Cond.methodLink "LogDiskLaw" (94 : Nat) ({ cls := "LogDiskLaw", name := "cutFrom", desc := "(LLogDisk;I[J)I" } : Jvm.MethodName)) ∈ gTb := gT_3 171 rfl rfl
theorem gw_652 : (Jvm.Cond.static ({ cls := "LogDiskLaw", name := "cutFrom", desc := "(LLogDisk;I[J)I" } : Jvm.MethodName)) ∈ gTb := gT_3 172 rfl rfl
theorem gw_653 : (Jvm.Cond.codeWith ({ cls := "LogDiskLaw", name := "cutFrom", desc := "(LLogDisk;I[J)I" } : Jvm.MethodName) method_6_code (4 : Nat) (Option.some Jvm.ClassFile.FieldType.int) [((0 : Nat), (9 : Nat), (12 : Nat), (30 : Nat))]) ∈ gTb := gT_3 173 rfl rfl
theorem gw_654 : (Jvm.Cond.classLink "LogDiskLaw" (30 : Nat) "java/lang/IndexOutOfBoundsException") ∈ gTb := gT_3 174 rfl rfl
theorem gw_655 : (Jvm.Cond.methodLink "LogDiskLaw" (26 : Nat) ({ cls := "LogDisk", name := "cutFrom", desc := "(I)I" } : Jvm.MethodName)) ∈ gTb := gT_3 175 rfl rfl
theorem gw_656 : (Jvm.Cond.instanceMethod ({ cls := "LogDisk", name := "cutFrom", desc := "(I)I" } : Jvm.MethodName)) ∈ gTb := gT_3 176 rfl rfl
theorem gw_657 : (Jvm.Cond.selects "LogDisk" ({ cls := "LogDisk", name := "cutFrom", desc := "(I)I" } : Jvm.MethodName) ({ cls := "LogDisk", name := "cutFrom", desc := "(I)I" } : Jvm.MethodName)) ∈ gTb := gT_3 177 rfl rfl
theorem gw_658 : (Jvm.Cond.code ({ cls := "LogDisk", name := "cutFrom", desc := "(I)I" } : Jvm.MethodName) prog_1_method_5_code (4 : Nat) (Option.some Jvm.ClassFile.FieldType.int)) ∈ gTb := gT_3 178 rfl rfl
theorem gw_659 : (Jvm.Cond.classLink "LogDisk" (189 : Nat) "java/lang/IndexOutOfBoundsException") ∈ gTb := gT_3 179 rfl rfl
theorem gw_660 : (Jvm.Cond.instantiable "java/lang/IndexOutOfBoundsException" (6 : Nat)) ∈ gTb := gT_3 180 rfl rfl
theorem gw_662 : (Jvm.Cond.selects "java/lang/IndexOutOfBoundsException" ({ cls := "java/lang/Throwable", name := "fillInStackTrace", desc := "(I)Ljava/lang/Throwable;" } : Jvm.MethodName) ({ cls := "java/lang/Throwable", name := "fillInStackTrace", desc := "(I)Ljava/lang/Throwable;" } : Jvm.MethodName)) ∈ gTb := gT_3 182 rfl rfl
theorem gw_663 : (Jvm.Cond.lays "java/lang/IndexOutOfBoundsException" "java/lang/Throwable" "cause" "Ljava/lang/Throwable;") ∈ gTb := gT_3 183 rfl rfl
theorem gw_664 : (Jvm.Cond.lays "java/lang/IndexOutOfBoundsException" "java/lang/Throwable" "stackTrace" "[Ljava/lang/StackTraceElement;") ∈ gTb := gT_3 184 rfl rfl
theorem gw_665 : (Jvm.Cond.lays "java/lang/IndexOutOfBoundsException" "java/lang/Throwable" "suppressedExceptions" "Ljava/util/List;") ∈ gTb := gT_3 185 rfl rfl
theorem gw_666 : (Jvm.Cond.lays "java/lang/IndexOutOfBoundsException" "java/lang/Throwable" "detailMessage" "Ljava/lang/String;") ∈ gTb := gT_3 186 rfl rfl
theorem gw_667 : (Jvm.Cond.lays "java/lang/IndexOutOfBoundsException" "java/lang/Throwable" "backtrace" "Ljava/lang/Object;") ∈ gTb := gT_3 187 rfl rfl
theorem gw_669 : (Jvm.Cond.methodLink "LogDisk" (193 : Nat) ({ cls := "java/lang/IndexOutOfBoundsException", name := "<init>", desc := "(Ljava/lang/String;)V" } : Jvm.MethodName)) ∈ gTb := gT_3 189 rfl rfl
theorem gw_670 : (Jvm.Cond.instanceMethod ({ cls := "java/lang/IndexOutOfBoundsException", name := "<init>", desc := "(Ljava/lang/String;)V" } : Jvm.MethodName)) ∈ gTb := gT_3 190 rfl rfl
theorem gw_671 : (Jvm.Cond.code ({ cls := "java/lang/IndexOutOfBoundsException", name := "<init>", desc := "(Ljava/lang/String;)V" } : Jvm.MethodName) prog_16_method_2_code (2 : Nat) (Option.none : Option Jvm.ClassFile.FieldType)) ∈ gTb := gT_3 191 rfl rfl
theorem gw_672 : (Jvm.Cond.methodLink "java/lang/IndexOutOfBoundsException" (7 : Nat) ({ cls := "java/lang/RuntimeException", name := "<init>", desc := "(Ljava/lang/String;)V" } : Jvm.MethodName)) ∈ gTb := gT_3 192 rfl rfl
theorem gw_673 : (Jvm.Cond.lays "java/lang/IndexOutOfBoundsException" "java/lang/Throwable" "depth" "I") ∈ gTb := gT_3 193 rfl rfl
theorem gw_675 : (Jvm.Cond.methodLink "LogDiskLaw" (98 : Nat) ({ cls := "LogDiskLaw", name := "compact", desc := "(LLogDisk;II[J)I" } : Jvm.MethodName)) ∈ gTb := gT_3 195 rfl rfl
theorem gw_676 : (Jvm.Cond.static ({ cls := "LogDiskLaw", name := "compact", desc := "(LLogDisk;II[J)I" } : Jvm.MethodName)) ∈ gTb := gT_3 196 rfl rfl
theorem gw_677 : (Jvm.Cond.codeWith ({ cls := "LogDiskLaw", name := "compact", desc := "(LLogDisk;II[J)I" } : Jvm.MethodName) method_7_code (5 : Nat) (Option.some Jvm.ClassFile.FieldType.int) [((0 : Nat), (10 : Nat), (13 : Nat), (30 : Nat)), ((0 : Nat), (10 : Nat), (17 : Nat), (21 : Nat))]) ∈ gTb := gT_3 197 rfl rfl
theorem gw_678 : (Jvm.Cond.methodLink "LogDiskLaw" (32 : Nat) ({ cls := "LogDisk", name := "compact", desc := "(II)I" } : Jvm.MethodName)) ∈ gTb := gT_3 198 rfl rfl
theorem gw_679 : (Jvm.Cond.instanceMethod ({ cls := "LogDisk", name := "compact", desc := "(II)I" } : Jvm.MethodName)) ∈ gTb := gT_3 199 rfl rfl
theorem gw_680 : (Jvm.Cond.selects "LogDisk" ({ cls := "LogDisk", name := "compact", desc := "(II)I" } : Jvm.MethodName) ({ cls := "LogDisk", name := "compact", desc := "(II)I" } : Jvm.MethodName)) ∈ gTb := gT_3 200 rfl rfl
theorem gw_681 : (Jvm.Cond.code ({ cls := "LogDisk", name := "compact", desc := "(II)I" } : Jvm.MethodName) prog_1_method_6_code (5 : Nat) (Option.some Jvm.ClassFile.FieldType.int)) ∈ gTb := gT_3 201 rfl rfl
theorem gw_682 : (Jvm.Cond.methodLink "LogDisk" (216 : Nat) ({ cls := "LogDisk$Snapshot", name := "nextFile", desc := "()I" } : Jvm.MethodName)) ∈ gTb := gT_3 202 rfl rfl
theorem gw_683 : (Jvm.Cond.instanceMethod ({ cls := "LogDisk$Snapshot", name := "nextFile", desc := "()I" } : Jvm.MethodName)) ∈ gTb := gT_3 203 rfl rfl
theorem gw_684 : (Jvm.Cond.selects "LogDisk$Snapshot" ({ cls := "LogDisk$Snapshot", name := "nextFile", desc := "()I" } : Jvm.MethodName) ({ cls := "LogDisk$Snapshot", name := "nextFile", desc := "()I" } : Jvm.MethodName)) ∈ gTb := gT_3 204 rfl rfl
theorem gw_685 : (Jvm.Cond.code ({ cls := "LogDisk$Snapshot", name := "nextFile", desc := "()I" } : Jvm.MethodName) prog_8_method_3_code (1 : Nat) (Option.some Jvm.ClassFile.FieldType.int)) ∈ gTb := gT_3 205 rfl rfl
theorem gw_686 : (Jvm.Cond.methodLink "LogDisk" (217 : Nat) ({ cls := "LogDisk", name := "moveBase", desc := "(IIII)V" } : Jvm.MethodName)) ∈ gTb := gT_3 206 rfl rfl
theorem gw_688 : (Jvm.Cond.instanceMethod ({ cls := "LogDisk", name := "moveBase", desc := "(IIII)V" } : Jvm.MethodName)) ∈ gTb := gT_3 208 rfl rfl
theorem gw_689 : (Jvm.Cond.code ({ cls := "LogDisk", name := "moveBase", desc := "(IIII)V" } : Jvm.MethodName) prog_1_method_27_code (6 : Nat) (Option.none : Option Jvm.ClassFile.FieldType)) ∈ gTb := gT_3 209 rfl rfl
theorem gw_690 : (Jvm.Cond.methodLink "LogDisk" (329 : Nat) ({ cls := "LogDisk", name := "dropSegments", desc := "()V" } : Jvm.MethodName)) ∈ gTb := gT_3 210 rfl rfl
theorem gw_692 : (Jvm.Cond.instanceMethod ({ cls := "LogDisk", name := "dropSegments", desc := "()V" } : Jvm.MethodName)) ∈ gTb := gT_3 212 rfl rfl
theorem gw_693 : (Jvm.Cond.code ({ cls := "LogDisk", name := "dropSegments", desc := "()V" } : Jvm.MethodName) prog_1_method_28_code (3 : Nat) (Option.none : Option Jvm.ClassFile.FieldType)) ∈ gTb := gT_3 213 rfl rfl
theorem gw_694 : (Jvm.Cond.methodLink "LogDisk" (332 : Nat) ({ cls := "LogDisk$Segments", name := "endedBy", desc := "(I)I" } : Jvm.MethodName)) ∈ gTb := gT_3 214 rfl rfl
theorem gw_695 : (Jvm.Cond.instanceMethod ({ cls := "LogDisk$Segments", name := "endedBy", desc := "(I)I" } : Jvm.MethodName)) ∈ gTb := gT_3 215 rfl rfl
theorem gw_696 : (Jvm.Cond.selects "LogDisk$Segments" ({ cls := "LogDisk$Segments", name := "endedBy", desc := "(I)I" } : Jvm.MethodName) ({ cls := "LogDisk$Segments", name := "endedBy", desc := "(I)I" } : Jvm.MethodName)) ∈ gTb := gT_3 216 rfl rfl
theorem gw_697 : (Jvm.Cond.code ({ cls := "LogDisk$Segments", name := "endedBy", desc := "(I)I" } : Jvm.MethodName) prog_7_method_5_code (4 : Nat) (Option.some Jvm.ClassFile.FieldType.int)) ∈ gTb := gT_3 217 rfl rfl
theorem gw_698 : (Jvm.Cond.methodLink "LogDisk" (335 : Nat) ({ cls := "LogDisk$Segments", name := "dropFront", desc := "(I)V" } : Jvm.MethodName)) ∈ gTb := gT_3 218 rfl rfl
theorem gw_699 : (Jvm.Cond.instanceMethod ({ cls := "LogDisk$Segments", name := "dropFront", desc := "(I)V" } : Jvm.MethodName)) ∈ gTb := gT_3 219 rfl rfl
theorem gw_700 : (Jvm.Cond.selects "LogDisk$Segments" ({ cls := "LogDisk$Segments", name := "dropFront", desc := "(I)V" } : Jvm.MethodName) ({ cls := "LogDisk$Segments", name := "dropFront", desc := "(I)V" } : Jvm.MethodName)) ∈ gTb := gT_3 220 rfl rfl
theorem gw_701 : (Jvm.Cond.code ({ cls := "LogDisk$Segments", name := "dropFront", desc := "(I)V" } : Jvm.MethodName) prog_7_method_6_code (3 : Nat) (Option.none : Option Jvm.ClassFile.FieldType)) ∈ gTb := gT_3 221 rfl rfl
theorem gw_702 : (Jvm.Cond.methodLink "LogDiskLaw" (101 : Nat) ({ cls := "LogDiskLaw", name := "take", desc := "(LLogDisk;III[J)I" } : Jvm.MethodName)) ∈ gTb := gT_3 222 rfl rfl
theorem gw_703 : (Jvm.Cond.static ({ cls := "LogDiskLaw", name := "take", desc := "(LLogDisk;III[J)I" } : Jvm.MethodName)) ∈ gTb := gT_3 223 rfl rfl
theorem gw_704 : (Jvm.Cond.codeWith ({ cls := "LogDiskLaw", name := "take", desc := "(LLogDisk;III[J)I" } : Jvm.MethodName) method_8_code (6 : Nat) (Option.some Jvm.ClassFile.FieldType.int) [((0 : Nat), (12 : Nat), (15 : Nat), (13 : Nat)), ((0 : Nat), (12 : Nat), (19 : Nat), (21 : Nat))]) ∈ gTb := gT_3 224 rfl rfl
theorem gw_705 : (Jvm.Cond.methodLink "LogDiskLaw" (35 : Nat) ({ cls := "LogDisk", name := "take", desc := "(III)I" } : Jvm.MethodName)) ∈ gTb := gT_3 225 rfl rfl
theorem gw_706 : (Jvm.Cond.instanceMethod ({ cls := "LogDisk", name := "take", desc := "(III)I" } : Jvm.MethodName)) ∈ gTb := gT_3 226 rfl rfl
theorem gw_707 : (Jvm.Cond.selects "LogDisk" ({ cls := "LogDisk", name := "take", desc := "(III)I" } : Jvm.MethodName) ({ cls := "LogDisk", name := "take", desc := "(III)I" } : Jvm.MethodName)) ∈ gTb := gT_3 227 rfl rfl
theorem gw_708 : (Jvm.Cond.code ({ cls := "LogDisk", name := "take", desc := "(III)I" } : Jvm.MethodName) prog_1_method_7_code (5 : Nat) (Option.some Jvm.ClassFile.FieldType.int)) ∈ gTb := gT_3 228 rfl rfl
theorem gw_711 : (Jvm.Cond.methodLink "LogDiskLaw" (110 : Nat) ({ cls := "LogDiskLaw", name := "keep", desc := "(LLogDisk;II)I" } : Jvm.MethodName)) ∈ gTb := gT_3 231 rfl rfl
theorem gw_712 : (Jvm.Cond.static ({ cls := "LogDiskLaw", name := "keep", desc := "(LLogDisk;II)I" } : Jvm.MethodName)) ∈ gTb := gT_3 232 rfl rfl
theorem gw_713 : (Jvm.Cond.codeWith ({ cls := "LogDiskLaw", name := "keep", desc := "(LLogDisk;II)I" } : Jvm.MethodName) method_9_code (4 : Nat) (Option.some Jvm.ClassFile.FieldType.int) [((0 : Nat), (6 : Nat), (9 : Nat), (30 : Nat)), ((0 : Nat), (6 : Nat), (12 : Nat), (13 : Nat))]) ∈ gTb := gT_3 233 rfl rfl
theorem gw_714 : (Jvm.Cond.methodLink "LogDiskLaw" (39 : Nat) ({ cls := "LogDisk", name := "keep", desc := "(II)V" } : Jvm.MethodName)) ∈ gTb := gT_3 234 rfl rfl
theorem gw_715 : (Jvm.Cond.instanceMethod ({ cls := "LogDisk", name := "keep", desc := "(II)V" } : Jvm.MethodName)) ∈ gTb := gT_3 235 rfl rfl
theorem gw_716 : (Jvm.Cond.selects "LogDisk" ({ cls := "LogDisk", name := "keep", desc := "(II)V" } : Jvm.MethodName) ({ cls := "LogDisk", name := "keep", desc := "(II)V" } : Jvm.MethodName)) ∈ gTb := gT_3 236 rfl rfl
theorem gw_717 : (Jvm.Cond.code ({ cls := "LogDisk", name := "keep", desc := "(II)V" } : Jvm.MethodName) prog_1_method_9_code (3 : Nat) (Option.none : Option Jvm.ClassFile.FieldType)) ∈ gTb := gT_3 237 rfl rfl
theorem gw_718 : (Jvm.Cond.methodLink "LogDisk" (227 : Nat) ({ cls := "LogDisk", name := "isFile", desc := "(I)Z" } : Jvm.MethodName)) ∈ gTb := gT_3 238 rfl rfl
theorem gw_719 : (Jvm.Cond.static ({ cls := "LogDisk", name := "isFile", desc := "(I)Z" } : Jvm.MethodName)) ∈ gTb := gT_3 239 rfl rfl
theorem gw_720 : (Jvm.Cond.code ({ cls := "LogDisk", name := "isFile", desc := "(I)Z" } : Jvm.MethodName) prog_1_method_18_code (1 : Nat) (Option.some Jvm.ClassFile.FieldType.boolean)) ∈ gTb := gT_4 0 rfl rfl
theorem gw_723 : (Jvm.Cond.methodLink "LogDiskLaw" (119 : Nat) ({ cls := "LogDiskLaw", name := "state", desc := "(LLogDisk;I[J)I" } : Jvm.MethodName)) ∈ gTb := gT_4 3 rfl rfl
theorem gw_724 : (Jvm.Cond.static ({ cls := "LogDiskLaw", name := "state", desc := "(LLogDisk;I[J)I" } : Jvm.MethodName)) ∈ gTb := gT_4 4 rfl rfl
theorem gw_725 : (Jvm.Cond.codeWith ({ cls := "LogDiskLaw", name := "state", desc := "(LLogDisk;I[J)I" } : Jvm.MethodName) method_10_code (4 : Nat) (Option.some Jvm.ClassFile.FieldType.int) [((0 : Nat), (9 : Nat), (12 : Nat), (30 : Nat))]) ∈ gTb := gT_4 5 rfl rfl
theorem gw_726 : (Jvm.Cond.methodLink "LogDiskLaw" (43 : Nat) ({ cls := "LogDisk", name := "state", desc := "(I)I" } : Jvm.MethodName)) ∈ gTb := gT_4 6 rfl rfl
theorem gw_727 : (Jvm.Cond.instanceMethod ({ cls := "LogDisk", name := "state", desc := "(I)I" } : Jvm.MethodName)) ∈ gTb := gT_4 7 rfl rfl
theorem gw_728 : (Jvm.Cond.selects "LogDisk" ({ cls := "LogDisk", name := "state", desc := "(I)I" } : Jvm.MethodName) ({ cls := "LogDisk", name := "state", desc := "(I)I" } : Jvm.MethodName)) ∈ gTb := gT_4 8 rfl rfl
theorem gw_729 : (Jvm.Cond.code ({ cls := "LogDisk", name := "state", desc := "(I)I" } : Jvm.MethodName) prog_1_method_11_code (2 : Nat) (Option.some Jvm.ClassFile.FieldType.int)) ∈ gTb := gT_4 9 rfl rfl
theorem gw_730 : (Jvm.Cond.methodLink "LogDisk" (251 : Nat) ({ cls := "LogDisk", name := "snapshotBytes", desc := "()I" } : Jvm.MethodName)) ∈ gTb := gT_4 10 rfl rfl
theorem gw_732 : (Jvm.Cond.instanceMethod ({ cls := "LogDisk", name := "snapshotBytes", desc := "()I" } : Jvm.MethodName)) ∈ gTb := gT_4 12 rfl rfl
theorem gw_733 : (Jvm.Cond.code ({ cls := "LogDisk", name := "snapshotBytes", desc := "()I" } : Jvm.MethodName) prog_1_method_21_code (1 : Nat) (Option.some Jvm.ClassFile.FieldType.int)) ∈ gTb := gT_4 13 rfl rfl
theorem gw_734 : (Jvm.Cond.methodLink "LogDisk" (254 : Nat) ({ cls := "LogDisk$Pages", name := "used", desc := "()I" } : Jvm.MethodName)) ∈ gTb := gT_4 14 rfl rfl
theorem gw_735 : (Jvm.Cond.instanceMethod ({ cls := "LogDisk$Pages", name := "used", desc := "()I" } : Jvm.MethodName)) ∈ gTb := gT_4 15 rfl rfl
theorem gw_736 : (Jvm.Cond.selects "LogDisk$Pages" ({ cls := "LogDisk$Pages", name := "used", desc := "()I" } : Jvm.MethodName) ({ cls := "LogDisk$Pages", name := "used", desc := "()I" } : Jvm.MethodName)) ∈ gTb := gT_4 16 rfl rfl
theorem gw_737 : (Jvm.Cond.code ({ cls := "LogDisk$Pages", name := "used", desc := "()I" } : Jvm.MethodName) prog_6_method_2_code (1 : Nat) (Option.some Jvm.ClassFile.FieldType.int)) ∈ gTb := gT_4 17 rfl rfl
theorem gw_739 : (Jvm.Cond.methodLink "LogDiskLaw" (122 : Nat) ({ cls := "LogDiskLaw", name := "entry", desc := "(LLogDisk;II[J)I" } : Jvm.MethodName)) ∈ gTb := gT_4 19 rfl rfl
theorem gw_740 : (Jvm.Cond.static ({ cls := "LogDiskLaw", name := "entry", desc := "(LLogDisk;II[J)I" } : Jvm.MethodName)) ∈ gTb := gT_4 20 rfl rfl
theorem gw_741 : (Jvm.Cond.codeWith ({ cls := "LogDiskLaw", name := "entry", desc := "(LLogDisk;II[J)I" } : Jvm.MethodName) method_11_code (5 : Nat) (Option.some Jvm.ClassFile.FieldType.int) [((0 : Nat), (10 : Nat), (13 : Nat), (30 : Nat))]) ∈ gTb := gT_4 21 rfl rfl
theorem gw_742 : (Jvm.Cond.methodLink "LogDiskLaw" (46 : Nat) ({ cls := "LogDisk", name := "entry", desc := "(II)I" } : Jvm.MethodName)) ∈ gTb := gT_4 22 rfl rfl
theorem gw_743 : (Jvm.Cond.instanceMethod ({ cls := "LogDisk", name := "entry", desc := "(II)I" } : Jvm.MethodName)) ∈ gTb := gT_4 23 rfl rfl
theorem gw_744 : (Jvm.Cond.selects "LogDisk" ({ cls := "LogDisk", name := "entry", desc := "(II)I" } : Jvm.MethodName) ({ cls := "LogDisk", name := "entry", desc := "(II)I" } : Jvm.MethodName)) ∈ gTb := gT_4 24 rfl rfl
theorem gw_745 : (Jvm.Cond.code ({ cls := "LogDisk", name := "entry", desc := "(II)I" } : Jvm.MethodName) prog_1_method_12_code (4 : Nat) (Option.some Jvm.ClassFile.FieldType.int)) ∈ gTb := gT_4 25 rfl rfl
theorem gw_747 : (Jvm.Cond.methodLink "LogDiskLaw" (125 : Nat) ({ cls := "LogDiskLaw", name := "contentAt", desc := "(LLogDisk;II[J)I" } : Jvm.MethodName)) ∈ gTb := gT_4 27 rfl rfl
theorem gw_748 : (Jvm.Cond.static ({ cls := "LogDiskLaw", name := "contentAt", desc := "(LLogDisk;II[J)I" } : Jvm.MethodName)) ∈ gTb := gT_4 28 rfl rfl
theorem gw_749 : (Jvm.Cond.codeWith ({ cls := "LogDiskLaw", name := "contentAt", desc := "(LLogDisk;II[J)I" } : Jvm.MethodName) method_12_code (5 : Nat) (Option.some Jvm.ClassFile.FieldType.int) [((0 : Nat), (10 : Nat), (13 : Nat), (30 : Nat)), ((0 : Nat), (10 : Nat), (17 : Nat), (52 : Nat))]) ∈ gTb := gT_4 29 rfl rfl
theorem gw_750 : (Jvm.Cond.classLink "LogDiskLaw" (52 : Nat) "java/util/NoSuchElementException") ∈ gTb := gT_4 30 rfl rfl
theorem gw_751 : (Jvm.Cond.methodLink "LogDiskLaw" (49 : Nat) ({ cls := "LogDisk", name := "contentAt", desc := "(II)I" } : Jvm.MethodName)) ∈ gTb := gT_4 31 rfl rfl
theorem gw_752 : (Jvm.Cond.instanceMethod ({ cls := "LogDisk", name := "contentAt", desc := "(II)I" } : Jvm.MethodName)) ∈ gTb := gT_4 32 rfl rfl
theorem gw_753 : (Jvm.Cond.selects "LogDisk" ({ cls := "LogDisk", name := "contentAt", desc := "(II)I" } : Jvm.MethodName) ({ cls := "LogDisk", name := "contentAt", desc := "(II)I" } : Jvm.MethodName)) ∈ gTb := gT_4 33 rfl rfl
theorem gw_754 : (Jvm.Cond.code ({ cls := "LogDisk", name := "contentAt", desc := "(II)I" } : Jvm.MethodName) prog_1_method_13_code (4 : Nat) (Option.some Jvm.ClassFile.FieldType.int)) ∈ gTb := gT_4 34 rfl rfl
theorem gw_756 : (Jvm.Cond.classLink "LogDisk" (270 : Nat) "java/util/NoSuchElementException") ∈ gTb := gT_4 36 rfl rfl
theorem gw_757 : (Jvm.Cond.instantiable "java/util/NoSuchElementException" (6 : Nat)) ∈ gTb := gT_4 37 rfl rfl
theorem gw_759 : (Jvm.Cond.selects "java/util/NoSuchElementException" ({ cls := "java/lang/Throwable", name := "fillInStackTrace", desc := "(I)Ljava/lang/Throwable;" } : Jvm.MethodName) ({ cls := "java/lang/Throwable", name := "fillInStackTrace", desc := "(I)Ljava/lang/Throwable;" } : Jvm.MethodName)) ∈ gTb := gT_4 39 rfl rfl
theorem gw_760 : (Jvm.Cond.lays "java/util/NoSuchElementException" "java/lang/Throwable" "cause" "Ljava/lang/Throwable;") ∈ gTb := gT_4 40 rfl rfl
theorem gw_761 : (Jvm.Cond.lays "java/util/NoSuchElementException" "java/lang/Throwable" "stackTrace" "[Ljava/lang/StackTraceElement;") ∈ gTb := gT_4 41 rfl rfl
theorem gw_762 : (Jvm.Cond.lays "java/util/NoSuchElementException" "java/lang/Throwable" "suppressedExceptions" "Ljava/util/List;") ∈ gTb := gT_4 42 rfl rfl
theorem gw_763 : (Jvm.Cond.lays "java/util/NoSuchElementException" "java/lang/Throwable" "detailMessage" "Ljava/lang/String;") ∈ gTb := gT_4 43 rfl rfl
theorem gw_764 : (Jvm.Cond.lays "java/util/NoSuchElementException" "java/lang/Throwable" "backtrace" "Ljava/lang/Object;") ∈ gTb := gT_4 44 rfl rfl
theorem gw_766 : (Jvm.Cond.methodLink "LogDisk" (274 : Nat) ({ cls := "java/util/NoSuchElementException", name := "<init>", desc := "(Ljava/lang/String;)V" } : Jvm.MethodName)) ∈ gTb := gT_4 46 rfl rfl
theorem gw_767 : (Jvm.Cond.instanceMethod ({ cls := "java/util/NoSuchElementException", name := "<init>", desc := "(Ljava/lang/String;)V" } : Jvm.MethodName)) ∈ gTb := gT_4 47 rfl rfl
theorem gw_768 : (Jvm.Cond.code ({ cls := "java/util/NoSuchElementException", name := "<init>", desc := "(Ljava/lang/String;)V" } : Jvm.MethodName) prog_23_method_4_code (2 : Nat) (Option.none : Option Jvm.ClassFile.FieldType)) ∈ gTb := gT_4 48 rfl rfl
theorem gw_769 : (Jvm.Cond.methodLink "java/util/NoSuchElementException" (13 : Nat) ({ cls := "java/lang/RuntimeException", name := "<init>", desc := "(Ljava/lang/String;)V" } : Jvm.MethodName)) ∈ gTb := gT_4 49 rfl rfl
theorem gw_770 : (Jvm.Cond.lays "java/util/NoSuchElementException" "java/lang/Throwable" "depth" "I") ∈ gTb := gT_4 50 rfl rfl
theorem gw_772 : (Jvm.Cond.methodLink "LogDiskLaw" (128 : Nat) ({ cls := "LogDiskLaw", name := "snapshotAt", desc := "(LLogDisk;I[J)I" } : Jvm.MethodName)) ∈ gTb := gT_4 52 rfl rfl
theorem gw_773 : (Jvm.Cond.static ({ cls := "LogDiskLaw", name := "snapshotAt", desc := "(LLogDisk;I[J)I" } : Jvm.MethodName)) ∈ gTb := gT_4 53 rfl rfl
theorem gw_774 : (Jvm.Cond.codeWith ({ cls := "LogDiskLaw", name := "snapshotAt", desc := "(LLogDisk;I[J)I" } : Jvm.MethodName) method_13_code (4 : Nat) (Option.some Jvm.ClassFile.FieldType.int) [((0 : Nat), (9 : Nat), (12 : Nat), (30 : Nat))]) ∈ gTb := gT_4 54 rfl rfl
theorem gw_775 : (Jvm.Cond.methodLink "LogDiskLaw" (54 : Nat) ({ cls := "LogDisk", name := "snapshotAt", desc := "(I)I" } : Jvm.MethodName)) ∈ gTb := gT_4 55 rfl rfl
theorem gw_776 : (Jvm.Cond.instanceMethod ({ cls := "LogDisk", name := "snapshotAt", desc := "(I)I" } : Jvm.MethodName)) ∈ gTb := gT_4 56 rfl rfl
theorem gw_777 : (Jvm.Cond.selects "LogDisk" ({ cls := "LogDisk", name := "snapshotAt", desc := "(I)I" } : Jvm.MethodName) ({ cls := "LogDisk", name := "snapshotAt", desc := "(I)I" } : Jvm.MethodName)) ∈ gTb := gT_4 57 rfl rfl
theorem gw_778 : (Jvm.Cond.code ({ cls := "LogDisk", name := "snapshotAt", desc := "(I)I" } : Jvm.MethodName) prog_1_method_14_code (2 : Nat) (Option.some Jvm.ClassFile.FieldType.int)) ∈ gTb := gT_4 58 rfl rfl
theorem gw_779 : (Jvm.Cond.methodLink "LogDiskLaw" (131 : Nat) ({ cls := "LogDiskLaw", name := "segment", desc := "(LLogDisk;II[J)I" } : Jvm.MethodName)) ∈ gTb := gT_4 59 rfl rfl
theorem gw_780 : (Jvm.Cond.static ({ cls := "LogDiskLaw", name := "segment", desc := "(LLogDisk;II[J)I" } : Jvm.MethodName)) ∈ gTb := gT_4 60 rfl rfl
theorem gw_781 : (Jvm.Cond.codeWith ({ cls := "LogDiskLaw", name := "segment", desc := "(LLogDisk;II[J)I" } : Jvm.MethodName) method_14_code (5 : Nat) (Option.some Jvm.ClassFile.FieldType.int) [((0 : Nat), (10 : Nat), (13 : Nat), (30 : Nat))]) ∈ gTb := gT_4 61 rfl rfl
theorem gw_782 : (Jvm.Cond.methodLink "LogDiskLaw" (57 : Nat) ({ cls := "LogDisk", name := "segment", desc := "(II)I" } : Jvm.MethodName)) ∈ gTb := gT_4 62 rfl rfl
theorem gw_783 : (Jvm.Cond.instanceMethod ({ cls := "LogDisk", name := "segment", desc := "(II)I" } : Jvm.MethodName)) ∈ gTb := gT_4 63 rfl rfl
theorem gw_784 : (Jvm.Cond.selects "LogDisk" ({ cls := "LogDisk", name := "segment", desc := "(II)I" } : Jvm.MethodName) ({ cls := "LogDisk", name := "segment", desc := "(II)I" } : Jvm.MethodName)) ∈ gTb := gT_4 64 rfl rfl
theorem gw_785 : (Jvm.Cond.code ({ cls := "LogDisk", name := "segment", desc := "(II)I" } : Jvm.MethodName) prog_1_method_15_code (3 : Nat) (Option.some Jvm.ClassFile.FieldType.int)) ∈ gTb := gT_4 65 rfl rfl
theorem gw_787 : (Jvm.Cond.methodLink "LogDiskLaw" (134 : Nat) ({ cls := "LogDiskLaw", name := "file", desc := "(LLogDisk;II[J)I" } : Jvm.MethodName)) ∈ gTb := gT_4 67 rfl rfl
theorem gw_788 : (Jvm.Cond.static ({ cls := "LogDiskLaw", name := "file", desc := "(LLogDisk;II[J)I" } : Jvm.MethodName)) ∈ gTb := gT_4 68 rfl rfl
theorem gw_789 : (Jvm.Cond.codeWith ({ cls := "LogDiskLaw", name := "file", desc := "(LLogDisk;II[J)I" } : Jvm.MethodName) method_15_code (5 : Nat) (Option.some Jvm.ClassFile.FieldType.int) [((0 : Nat), (10 : Nat), (13 : Nat), (30 : Nat))]) ∈ gTb := gT_4 69 rfl rfl
theorem gw_790 : (Jvm.Cond.methodLink "LogDiskLaw" (60 : Nat) ({ cls := "LogDisk", name := "file", desc := "(II)I" } : Jvm.MethodName)) ∈ gTb := gT_4 70 rfl rfl
theorem gw_791 : (Jvm.Cond.instanceMethod ({ cls := "LogDisk", name := "file", desc := "(II)I" } : Jvm.MethodName)) ∈ gTb := gT_4 71 rfl rfl
theorem gw_792 : (Jvm.Cond.selects "LogDisk" ({ cls := "LogDisk", name := "file", desc := "(II)I" } : Jvm.MethodName) ({ cls := "LogDisk", name := "file", desc := "(II)I" } : Jvm.MethodName)) ∈ gTb := gT_4 72 rfl rfl
theorem gw_793 : (Jvm.Cond.code ({ cls := "LogDisk", name := "file", desc := "(II)I" } : Jvm.MethodName) prog_1_method_16_code (4 : Nat) (Option.some Jvm.ClassFile.FieldType.int)) ∈ gTb := gT_4 73 rfl rfl
theorem gw_794 : (Jvm.Cond.methodLink "LogDiskLaw" (137 : Nat) ({ cls := "LogDiskLaw", name := "byteAt", desc := "(LLogDisk;II[J)I" } : Jvm.MethodName)) ∈ gTb := gT_4 74 rfl rfl
theorem gw_795 : (Jvm.Cond.static ({ cls := "LogDiskLaw", name := "byteAt", desc := "(LLogDisk;II[J)I" } : Jvm.MethodName)) ∈ gTb := gT_4 75 rfl rfl
theorem gw_796 : (Jvm.Cond.codeWith ({ cls := "LogDiskLaw", name := "byteAt", desc := "(LLogDisk;II[J)I" } : Jvm.MethodName) method_16_code (5 : Nat) (Option.some Jvm.ClassFile.FieldType.int) [((0 : Nat), (10 : Nat), (13 : Nat), (30 : Nat))]) ∈ gTb := gT_4 76 rfl rfl
theorem gw_797 : (Jvm.Cond.methodLink "LogDiskLaw" (63 : Nat) ({ cls := "LogDisk", name := "byteAt", desc := "(II)I" } : Jvm.MethodName)) ∈ gTb := gT_4 77 rfl rfl
theorem gw_798 : (Jvm.Cond.instanceMethod ({ cls := "LogDisk", name := "byteAt", desc := "(II)I" } : Jvm.MethodName)) ∈ gTb := gT_4 78 rfl rfl
theorem gw_799 : (Jvm.Cond.selects "LogDisk" ({ cls := "LogDisk", name := "byteAt", desc := "(II)I" } : Jvm.MethodName) ({ cls := "LogDisk", name := "byteAt", desc := "(II)I" } : Jvm.MethodName)) ∈ gTb := gT_4 79 rfl rfl
theorem gw_800 : (Jvm.Cond.code ({ cls := "LogDisk", name := "byteAt", desc := "(II)I" } : Jvm.MethodName) prog_1_method_17_code (3 : Nat) (Option.some Jvm.ClassFile.FieldType.int)) ∈ gTb := gT_4 80 rfl rfl
theorem gw_801 : (Jvm.Cond.classLink "LogDiskLaw" (74 : Nat) "LogDiskModel") ∈ gTb := gT_4 81 rfl rfl
theorem gw_802 : (Jvm.Cond.instantiable "LogDiskModel" (35 : Nat)) ∈ gTb := gT_4 82 rfl rfl
theorem gw_803 : (Jvm.Cond.methodLink "LogDiskLaw" (76 : Nat) ({ cls := "LogDiskModel", name := "<init>", desc := "(II)V" } : Jvm.MethodName)) ∈ gTb := gT_4 83 rfl rfl
theorem gw_804 : (Jvm.Cond.instanceMethod ({ cls := "LogDiskModel", name := "<init>", desc := "(II)V" } : Jvm.MethodName)) ∈ gTb := gT_4 84 rfl rfl
theorem gw_805 : (Jvm.Cond.code ({ cls := "LogDiskModel", name := "<init>", desc := "(II)V" } : Jvm.MethodName) prog_12_method_1_code (4 : Nat) (Option.none : Option Jvm.ClassFile.FieldType)) ∈ gTb := gT_4 85 rfl rfl
theorem gw_806 : (Jvm.Cond.methodLink "LogDiskModel" (1 : Nat) ({ cls := "java/lang/Object", name := "<init>", desc := "()V" } : Jvm.MethodName)) ∈ gTb := gT_4 86 rfl rfl
theorem gw_807 : (Jvm.Cond.fieldLink "LogDiskModel" (78 : Nat) "LogDiskModel" "thrown" "I") ∈ gTb := gT_4 87 rfl rfl
theorem gw_808 : (Jvm.Cond.fieldLink "LogDiskModel" (66 : Nat) "LogDiskModel" "limit" "I") ∈ gTb := gT_4 88 rfl rfl
theorem gw_809 : (Jvm.Cond.fieldLink "LogDiskModel" (69 : Nat) "LogDiskModel" "firstCode" "I") ∈ gTb := gT_4 89 rfl rfl
theorem gw_810 : (Jvm.Cond.fieldLink "LogDiskModel" (81 : Nat) "LogDiskModel" "frames" "I") ∈ gTb := gT_4 90 rfl rfl
theorem gw_811 : (Jvm.Cond.fieldLink "LogDiskModel" (7 : Nat) "LogDiskModel" "sorts" "[I") ∈ gTb := gT_4 91 rfl rfl
theorem gw_812 : (Jvm.Cond.fieldLink "LogDiskModel" (13 : Nat) "LogDiskModel" "as" "[I") ∈ gTb := gT_4 92 rfl rfl
theorem gw_813 : (Jvm.Cond.fieldLink "LogDiskModel" (16 : Nat) "LogDiskModel" "bs" "[I") ∈ gTb := gT_4 93 rfl rfl
theorem gw_814 : (Jvm.Cond.fieldLink "LogDiskModel" (19 : Nat) "LogDiskModel" "cs" "[I") ∈ gTb := gT_4 94 rfl rfl
theorem gw_815 : (Jvm.Cond.fieldLink "LogDiskModel" (22 : Nat) "LogDiskModel" "froms" "[I") ∈ gTb := gT_4 95 rfl rfl
theorem gw_816 : (Jvm.Cond.fieldLink "LogDiskModel" (25 : Nat) "LogDiskModel" "lengths" "[I") ∈ gTb := gT_4 96 rfl rfl
theorem gw_817 : (Jvm.Cond.fieldLink "LogDiskModel" (28 : Nat) "LogDiskModel" "bytes" "[I") ∈ gTb := gT_4 97 rfl rfl
theorem gw_818 : (Jvm.Cond.fieldLink "LogDiskModel" (84 : Nat) "LogDiskModel" "used" "I") ∈ gTb := gT_4 98 rfl rfl
theorem gw_819 : (Jvm.Cond.fieldLink "LogDiskModel" (31 : Nat) "LogDiskModel" "rows" "[I") ∈ gTb := gT_4 99 rfl rfl
theorem gw_820 : (Jvm.Cond.fieldLink "LogDiskModel" (34 : Nat) "LogDiskModel" "counts" "[I") ∈ gTb := gT_4 100 rfl rfl
theorem gw_821 : (Jvm.Cond.fieldLink "LogDiskModel" (37 : Nat) "LogDiskModel" "sizes" "[I") ∈ gTb := gT_4 101 rfl rfl
theorem gw_822 : (Jvm.Cond.fieldLink "LogDiskModel" (40 : Nat) "LogDiskModel" "there" "[Z") ∈ gTb := gT_4 102 rfl rfl
theorem gw_823 : (Jvm.Cond.fieldLink "LogDiskModel" (44 : Nat) "LogDiskModel" "lows" "[I") ∈ gTb := gT_4 103 rfl rfl
theorem gw_824 : (Jvm.Cond.fieldLink "LogDiskModel" (47 : Nat) "LogDiskModel" "shared" "[I") ∈ gTb := gT_4 104 rfl rfl
theorem gw_825 : (Jvm.Cond.fieldLink "LogDiskModel" (50 : Nat) "LogDiskModel" "keeps" "[I") ∈ gTb := gT_4 105 rfl rfl
theorem gw_826 : (Jvm.Cond.fieldLink "LogDiskModel" (135 : Nat) "LogDiskModel" "term" "I") ∈ gTb := gT_4 106 rfl rfl
theorem gw_827 : (Jvm.Cond.fieldLink "LogDiskModel" (53 : Nat) "LogDiskModel" "voted" "I") ∈ gTb := gT_4 107 rfl rfl
theorem gw_828 : (Jvm.Cond.fieldLink "LogDiskModel" (150 : Nat) "LogDiskModel" "times" "I") ∈ gTb := gT_4 108 rfl rfl
theorem gw_829 : (Jvm.Cond.fieldLink "LogDiskModel" (143 : Nat) "LogDiskModel" "slot" "I") ∈ gTb := gT_4 109 rfl rfl
theorem gw_830 : (Jvm.Cond.fieldLink "LogDiskModel" (163 : Nat) "LogDiskModel" "base" "I") ∈ gTb := gT_4 110 rfl rfl
theorem gw_831 : (Jvm.Cond.fieldLink "LogDiskModel" (166 : Nat) "LogDiskModel" "baseTerm" "I") ∈ gTb := gT_4 111 rfl rfl
theorem gw_832 : (Jvm.Cond.fieldLink "LogDiskModel" (72 : Nat) "LogDiskModel" "code" "I") ∈ gTb := gT_4 112 rfl rfl
theorem gw_833 : (Jvm.Cond.fieldLink "LogDiskModel" (75 : Nat) "LogDiskModel" "snapshot" "I") ∈ gTb := gT_4 113 rfl rfl
theorem gw_834 : (Jvm.Cond.fieldLink "LogDiskModel" (169 : Nat) "LogDiskModel" "last" "I") ∈ gTb := gT_4 114 rfl rfl
theorem gw_835 : (Jvm.Cond.fieldLink "LogDiskModel" (139 : Nat) "LogDiskModel" "slotSince" "Z") ∈ gTb := gT_4 115 rfl rfl
theorem gw_836 : (Jvm.Cond.fieldLink "LogDiskModel" (160 : Nat) "LogDiskModel" "dirty" "Z") ∈ gTb := gT_4 116 rfl rfl
theorem gw_837 : (Jvm.Cond.fieldLink "LogDiskModel" (175 : Nat) "LogDiskModel" "segments" "I") ∈ gTb := gT_4 117 rfl rfl
theorem gw_838 : (Jvm.Cond.fieldLink "LogDiskModel" (57 : Nat) "LogDiskModel" "order" "[I") ∈ gTb := gT_4 118 rfl rfl
theorem gw_839 : (Jvm.Cond.fieldLink "LogDiskModel" (60 : Nat) "LogDiskModel" "entries" "[I") ∈ gTb := gT_4 119 rfl rfl
theorem gw_840 : (Jvm.Cond.fieldLink "LogDiskModel" (132 : Nat) "LogDiskModel" "tape" "I") ∈ gTb := gT_4 120 rfl rfl
theorem gw_841 : (Jvm.Cond.fieldLink "LogDiskModel" (63 : Nat) "LogDiskModel" "fed" "[I") ∈ gTb := gT_4 121 rfl rfl
theorem gw_842 : (Jvm.Cond.lays "LogDiskModel" "LogDiskModel" "thrown" "I") ∈ gTb := gT_4 122 rfl rfl
theorem gw_844 : (Jvm.Cond.laysFinal "LogDiskModel" "LogDiskModel" "limit" "I") ∈ gTb := gT_4 124 rfl rfl
theorem gw_846 : (Jvm.Cond.laysFinal "LogDiskModel" "LogDiskModel" "firstCode" "I") ∈ gTb := gT_4 126 rfl rfl
theorem gw_848 : (Jvm.Cond.lays "LogDiskModel" "LogDiskModel" "frames" "I") ∈ gTb := gT_4 128 rfl rfl
theorem gw_850 : (Jvm.Cond.laysFinal "LogDiskModel" "LogDiskModel" "sorts" "[I") ∈ gTb := gT_4 130 rfl rfl
theorem gw_852 : (Jvm.Cond.laysFinal "LogDiskModel" "LogDiskModel" "as" "[I") ∈ gTb := gT_4 132 rfl rfl
theorem gw_854 : (Jvm.Cond.laysFinal "LogDiskModel" "LogDiskModel" "bs" "[I") ∈ gTb := gT_4 134 rfl rfl
theorem gw_856 : (Jvm.Cond.laysFinal "LogDiskModel" "LogDiskModel" "cs" "[I") ∈ gTb := gT_4 136 rfl rfl
theorem gw_858 : (Jvm.Cond.laysFinal "LogDiskModel" "LogDiskModel" "froms" "[I") ∈ gTb := gT_4 138 rfl rfl
theorem gw_860 : (Jvm.Cond.laysFinal "LogDiskModel" "LogDiskModel" "lengths" "[I") ∈ gTb := gT_4 140 rfl rfl
theorem gw_862 : (Jvm.Cond.laysFinal "LogDiskModel" "LogDiskModel" "bytes" "[I") ∈ gTb := gT_4 142 rfl rfl
theorem gw_864 : (Jvm.Cond.lays "LogDiskModel" "LogDiskModel" "used" "I") ∈ gTb := gT_4 144 rfl rfl
theorem gw_866 : (Jvm.Cond.laysFinal "LogDiskModel" "LogDiskModel" "rows" "[I") ∈ gTb := gT_4 146 rfl rfl
theorem gw_868 : (Jvm.Cond.laysFinal "LogDiskModel" "LogDiskModel" "counts" "[I") ∈ gTb := gT_4 148 rfl rfl
theorem gw_870 : (Jvm.Cond.laysFinal "LogDiskModel" "LogDiskModel" "sizes" "[I") ∈ gTb := gT_4 150 rfl rfl
theorem gw_872 : (Jvm.Cond.laysFinal "LogDiskModel" "LogDiskModel" "there" "[Z") ∈ gTb := gT_4 152 rfl rfl
theorem gw_874 : (Jvm.Cond.laysFinal "LogDiskModel" "LogDiskModel" "lows" "[I") ∈ gTb := gT_4 154 rfl rfl
theorem gw_876 : (Jvm.Cond.laysFinal "LogDiskModel" "LogDiskModel" "shared" "[I") ∈ gTb := gT_4 156 rfl rfl
theorem gw_878 : (Jvm.Cond.laysFinal "LogDiskModel" "LogDiskModel" "keeps" "[I") ∈ gTb := gT_4 158 rfl rfl
theorem gw_880 : (Jvm.Cond.lays "LogDiskModel" "LogDiskModel" "term" "I") ∈ gTb := gT_4 160 rfl rfl
theorem gw_882 : (Jvm.Cond.lays "LogDiskModel" "LogDiskModel" "voted" "I") ∈ gTb := gT_4 162 rfl rfl
theorem gw_884 : (Jvm.Cond.lays "LogDiskModel" "LogDiskModel" "times" "I") ∈ gTb := gT_4 164 rfl rfl
theorem gw_886 : (Jvm.Cond.lays "LogDiskModel" "LogDiskModel" "slot" "I") ∈ gTb := gT_4 166 rfl rfl
theorem gw_888 : (Jvm.Cond.lays "LogDiskModel" "LogDiskModel" "base" "I") ∈ gTb := gT_4 168 rfl rfl
theorem gw_890 : (Jvm.Cond.lays "LogDiskModel" "LogDiskModel" "baseTerm" "I") ∈ gTb := gT_4 170 rfl rfl
theorem gw_892 : (Jvm.Cond.lays "LogDiskModel" "LogDiskModel" "code" "I") ∈ gTb := gT_4 172 rfl rfl
theorem gw_894 : (Jvm.Cond.lays "LogDiskModel" "LogDiskModel" "snapshot" "I") ∈ gTb := gT_4 174 rfl rfl
theorem gw_896 : (Jvm.Cond.lays "LogDiskModel" "LogDiskModel" "last" "I") ∈ gTb := gT_4 176 rfl rfl
theorem gw_898 : (Jvm.Cond.lays "LogDiskModel" "LogDiskModel" "slotSince" "Z") ∈ gTb := gT_4 178 rfl rfl
theorem gw_900 : (Jvm.Cond.lays "LogDiskModel" "LogDiskModel" "dirty" "Z") ∈ gTb := gT_4 180 rfl rfl
theorem gw_902 : (Jvm.Cond.lays "LogDiskModel" "LogDiskModel" "segments" "I") ∈ gTb := gT_4 182 rfl rfl
theorem gw_904 : (Jvm.Cond.laysFinal "LogDiskModel" "LogDiskModel" "order" "[I") ∈ gTb := gT_4 184 rfl rfl
theorem gw_906 : (Jvm.Cond.laysFinal "LogDiskModel" "LogDiskModel" "entries" "[I") ∈ gTb := gT_4 186 rfl rfl
theorem gw_908 : (Jvm.Cond.lays "LogDiskModel" "LogDiskModel" "tape" "I") ∈ gTb := gT_4 188 rfl rfl
theorem gw_910 : (Jvm.Cond.laysFinal "LogDiskModel" "LogDiskModel" "fed" "[I") ∈ gTb := gT_4 190 rfl rfl
theorem gw_913 : (Jvm.Cond.arrayClass Jvm.ClassFile.FieldType.boolean) ∈ gTb := gT_4 193 rfl rfl
theorem gw_914 : (Jvm.Cond.methodLink "LogDiskLaw" (83 : Nat) ({ cls := "LogDiskModel", name := "thrown", desc := "()I" } : Jvm.MethodName)) ∈ gTb := gT_4 194 rfl rfl
theorem gw_915 : (Jvm.Cond.instanceMethod ({ cls := "LogDiskModel", name := "thrown", desc := "()I" } : Jvm.MethodName)) ∈ gTb := gT_4 195 rfl rfl
theorem gw_916 : (Jvm.Cond.selects "LogDiskModel" ({ cls := "LogDiskModel", name := "thrown", desc := "()I" } : Jvm.MethodName) ({ cls := "LogDiskModel", name := "thrown", desc := "()I" } : Jvm.MethodName)) ∈ gTb := gT_4 196 rfl rfl
theorem gw_917 : (Jvm.Cond.code ({ cls := "LogDiskModel", name := "thrown", desc := "()I" } : Jvm.MethodName) prog_12_method_2_code (1 : Nat) (Option.some Jvm.ClassFile.FieldType.int)) ∈ gTb := gT_4 197 rfl rfl
theorem gw_918 : (Jvm.Cond.methodLink "LogDiskLaw" (82 : Nat) ({ cls := "LogDiskModel", name := "feed", desc := "(JI)I" } : Jvm.MethodName)) ∈ gTb := gT_4 198 rfl rfl
theorem gw_919 : (Jvm.Cond.instanceMethod ({ cls := "LogDiskModel", name := "feed", desc := "(JI)I" } : Jvm.MethodName)) ∈ gTb := gT_4 199 rfl rfl
theorem gw_920 : (Jvm.Cond.selects "LogDiskModel" ({ cls := "LogDiskModel", name := "feed", desc := "(JI)I" } : Jvm.MethodName) ({ cls := "LogDiskModel", name := "feed", desc := "(JI)I" } : Jvm.MethodName)) ∈ gTb := gT_4 200 rfl rfl
theorem gw_921 : (Jvm.Cond.code ({ cls := "LogDiskModel", name := "feed", desc := "(JI)I" } : Jvm.MethodName) prog_12_method_23_code (5 : Nat) (Option.some Jvm.ClassFile.FieldType.int)) ∈ gTb := gT_4 201 rfl rfl
theorem gw_922 : (Jvm.Cond.methodLink "LogDiskModel" (125 : Nat) ({ cls := "LogDiskModel", name := "within", desc := "(III)Z" } : Jvm.MethodName)) ∈ gTb := gT_4 202 rfl rfl
theorem gw_923 : (Jvm.Cond.static ({ cls := "LogDiskModel", name := "within", desc := "(III)Z" } : Jvm.MethodName)) ∈ gTb := gT_4 203 rfl rfl
theorem gw_924 : (Jvm.Cond.code ({ cls := "LogDiskModel", name := "within", desc := "(III)Z" } : Jvm.MethodName) prog_12_method_4_code (3 : Nat) (Option.some Jvm.ClassFile.FieldType.boolean)) ∈ gTb := gT_4 204 rfl rfl
theorem gw_925 : (Jvm.Cond.methodLink "LogDiskModel" (129 : Nat) ({ cls := "LogDiskModel", name := "fail", desc := "(I)I" } : Jvm.MethodName)) ∈ gTb := gT_4 205 rfl rfl
theorem gw_927 : (Jvm.Cond.instanceMethod ({ cls := "LogDiskModel", name := "fail", desc := "(I)I" } : Jvm.MethodName)) ∈ gTb := gT_4 207 rfl rfl
theorem gw_928 : (Jvm.Cond.code ({ cls := "LogDiskModel", name := "fail", desc := "(I)I" } : Jvm.MethodName) prog_12_method_3_code (2 : Nat) (Option.some Jvm.ClassFile.FieldType.int)) ∈ gTb := gT_4 208 rfl rfl
theorem gw_929 : (Jvm.Cond.methodLink "LogDiskModel" (93 : Nat) ({ cls := "LogDiskModel", name := "byteOf", desc := "(JI)I" } : Jvm.MethodName)) ∈ gTb := gT_4 209 rfl rfl
theorem gw_930 : (Jvm.Cond.static ({ cls := "LogDiskModel", name := "byteOf", desc := "(JI)I" } : Jvm.MethodName)) ∈ gTb := gT_4 210 rfl rfl
theorem gw_931 : (Jvm.Cond.code ({ cls := "LogDiskModel", name := "byteOf", desc := "(JI)I" } : Jvm.MethodName) prog_12_method_9_code (3 : Nat) (Option.some Jvm.ClassFile.FieldType.int)) ∈ gTb := gT_4 211 rfl rfl
theorem gw_932 : (Jvm.Cond.constantLong "LogDiskModel" (91 : Nat) (255 : Int64)) ∈ gTb := gT_4 212 rfl rfl
theorem gw_933 : (Jvm.Cond.methodLink "LogDiskLaw" (90 : Nat) ({ cls := "LogDiskModel", name := "save", desc := "(II)I" } : Jvm.MethodName)) ∈ gTb := gT_4 213 rfl rfl
theorem gw_934 : (Jvm.Cond.instanceMethod ({ cls := "LogDiskModel", name := "save", desc := "(II)I" } : Jvm.MethodName)) ∈ gTb := gT_4 214 rfl rfl
theorem gw_935 : (Jvm.Cond.selects "LogDiskModel" ({ cls := "LogDiskModel", name := "save", desc := "(II)I" } : Jvm.MethodName) ({ cls := "LogDiskModel", name := "save", desc := "(II)I" } : Jvm.MethodName)) ∈ gTb := gT_4 215 rfl rfl
theorem gw_936 : (Jvm.Cond.code ({ cls := "LogDiskModel", name := "save", desc := "(II)I" } : Jvm.MethodName) prog_12_method_24_code (5 : Nat) (Option.some Jvm.ClassFile.FieldType.int)) ∈ gTb := gT_4 216 rfl rfl
theorem gw_937 : (Jvm.Cond.constant "LogDiskModel" (138 : Nat) (1000000 : Int32)) ∈ gTb := gT_4 217 rfl rfl
theorem gw_938 : (Jvm.Cond.methodLink "LogDiskModel" (146 : Nat) ({ cls := "LogDiskModel", name := "hasRoomAnew", desc := "(II)Z" } : Jvm.MethodName)) ∈ gTb := gT_4 218 rfl rfl
theorem gw_940 : (Jvm.Cond.instanceMethod ({ cls := "LogDiskModel", name := "hasRoomAnew", desc := "(II)Z" } : Jvm.MethodName)) ∈ gTb := gT_4 220 rfl rfl
theorem gw_941 : (Jvm.Cond.code ({ cls := "LogDiskModel", name := "hasRoomAnew", desc := "(II)Z" } : Jvm.MethodName) prog_12_method_17_code (4 : Nat) (Option.some Jvm.ClassFile.FieldType.boolean)) ∈ gTb := gT_4 221 rfl rfl
theorem gw_942 : (Jvm.Cond.methodLink "LogDiskModel" (111 : Nat) ({ cls := "LogDiskModel", name := "pagesUsed", desc := "()I" } : Jvm.MethodName)) ∈ gTb := gT_4 222 rfl rfl
theorem gw_944 : (Jvm.Cond.instanceMethod ({ cls := "LogDiskModel", name := "pagesUsed", desc := "()I" } : Jvm.MethodName)) ∈ gTb := gT_4 224 rfl rfl
theorem gw_945 : (Jvm.Cond.code ({ cls := "LogDiskModel", name := "pagesUsed", desc := "()I" } : Jvm.MethodName) prog_12_method_14_code (3 : Nat) (Option.some Jvm.ClassFile.FieldType.int)) ∈ gTb := gT_4 225 rfl rfl
theorem gw_946 : (Jvm.Cond.methodLink "LogDiskModel" (105 : Nat) ({ cls := "LogDiskModel", name := "pages", desc := "(I)I" } : Jvm.MethodName)) ∈ gTb := gT_4 226 rfl rfl
theorem gw_947 : (Jvm.Cond.static ({ cls := "LogDiskModel", name := "pages", desc := "(I)I" } : Jvm.MethodName)) ∈ gTb := gT_4 227 rfl rfl
theorem gw_948 : (Jvm.Cond.code ({ cls := "LogDiskModel", name := "pages", desc := "(I)I" } : Jvm.MethodName) prog_12_method_13_code (1 : Nat) (Option.some Jvm.ClassFile.FieldType.int)) ∈ gTb := gT_4 228 rfl rfl
theorem gw_949 : (Jvm.Cond.methodLink "LogDiskModel" (118 : Nat) ({ cls := "LogDiskModel", name := "cut", desc := "(II)V" } : Jvm.MethodName)) ∈ gTb := gT_4 229 rfl rfl
theorem gw_951 : (Jvm.Cond.instanceMethod ({ cls := "LogDiskModel", name := "cut", desc := "(II)V" } : Jvm.MethodName)) ∈ gTb := gT_4 231 rfl rfl
theorem gw_952 : (Jvm.Cond.code ({ cls := "LogDiskModel", name := "cut", desc := "(II)V" } : Jvm.MethodName) prog_12_method_18_code (5 : Nat) (Option.none : Option Jvm.ClassFile.FieldType)) ∈ gTb := gT_4 232 rfl rfl
theorem gw_953 : (Jvm.Cond.methodLink "LogDiskModel" (115 : Nat) ({ cls := "LogDiskModel", name := "space", desc := "(I)I" } : Jvm.MethodName)) ∈ gTb := gT_4 233 rfl rfl
theorem gw_955 : (Jvm.Cond.instanceMethod ({ cls := "LogDiskModel", name := "space", desc := "(I)I" } : Jvm.MethodName)) ∈ gTb := gT_4 235 rfl rfl
theorem gw_956 : (Jvm.Cond.code ({ cls := "LogDiskModel", name := "space", desc := "(I)I" } : Jvm.MethodName) prog_12_method_8_code (2 : Nat) (Option.some Jvm.ClassFile.FieldType.int)) ∈ gTb := gT_4 236 rfl rfl
theorem gw_957 : (Jvm.Cond.methodLink "LogDiskModel" (87 : Nat) ({ cls := "LogDiskModel", name := "payload", desc := "(I)I" } : Jvm.MethodName)) ∈ gTb := gT_4 237 rfl rfl
theorem gw_959 : (Jvm.Cond.instanceMethod ({ cls := "LogDiskModel", name := "payload", desc := "(I)I" } : Jvm.MethodName)) ∈ gTb := gT_4 239 rfl rfl
theorem gw_960 : (Jvm.Cond.code ({ cls := "LogDiskModel", name := "payload", desc := "(I)I" } : Jvm.MethodName) prog_12_method_7_code (2 : Nat) (Option.some Jvm.ClassFile.FieldType.int)) ∈ gTb := gT_5 0 rfl rfl
theorem gw_961 : (Jvm.Cond.methodLink "LogDiskModel" (153 : Nat) ({ cls := "LogDiskModel", name := "make", desc := "(IIII)I" } : Jvm.MethodName)) ∈ gTb := gT_5 1 rfl rfl
theorem gw_963 : (Jvm.Cond.instanceMethod ({ cls := "LogDiskModel", name := "make", desc := "(IIII)I" } : Jvm.MethodName)) ∈ gTb := gT_5 3 rfl rfl
theorem gw_964 : (Jvm.Cond.code ({ cls := "LogDiskModel", name := "make", desc := "(IIII)I" } : Jvm.MethodName) prog_12_method_5_code (6 : Nat) (Option.some Jvm.ClassFile.FieldType.int)) ∈ gTb := gT_5 4 rfl rfl
theorem gw_965 : (Jvm.Cond.methodLink "LogDiskModel" (157 : Nat) ({ cls := "LogDiskModel", name := "put", desc := "(II)V" } : Jvm.MethodName)) ∈ gTb := gT_5 5 rfl rfl
theorem gw_967 : (Jvm.Cond.instanceMethod ({ cls := "LogDiskModel", name := "put", desc := "(II)V" } : Jvm.MethodName)) ∈ gTb := gT_5 7 rfl rfl
theorem gw_968 : (Jvm.Cond.code ({ cls := "LogDiskModel", name := "put", desc := "(II)V" } : Jvm.MethodName) prog_12_method_20_code (3 : Nat) (Option.none : Option Jvm.ClassFile.FieldType)) ∈ gTb := gT_5 8 rfl rfl
theorem gw_969 : (Jvm.Cond.methodLink "LogDiskLaw" (93 : Nat) ({ cls := "LogDiskModel", name := "append", desc := "(II)I" } : Jvm.MethodName)) ∈ gTb := gT_5 9 rfl rfl
theorem gw_970 : (Jvm.Cond.instanceMethod ({ cls := "LogDiskModel", name := "append", desc := "(II)I" } : Jvm.MethodName)) ∈ gTb := gT_5 10 rfl rfl
theorem gw_971 : (Jvm.Cond.selects "LogDiskModel" ({ cls := "LogDiskModel", name := "append", desc := "(II)I" } : Jvm.MethodName) ({ cls := "LogDiskModel", name := "append", desc := "(II)I" } : Jvm.MethodName)) ∈ gTb := gT_5 11 rfl rfl
theorem gw_972 : (Jvm.Cond.code ({ cls := "LogDiskModel", name := "append", desc := "(II)I" } : Jvm.MethodName) prog_12_method_27_code (7 : Nat) (Option.some Jvm.ClassFile.FieldType.int)) ∈ gTb := gT_5 12 rfl rfl
theorem gw_973 : (Jvm.Cond.methodLink "LogDiskModel" (172 : Nat) ({ cls := "LogDiskModel", name := "termOf", desc := "(I)I" } : Jvm.MethodName)) ∈ gTb := gT_5 13 rfl rfl
theorem gw_975 : (Jvm.Cond.instanceMethod ({ cls := "LogDiskModel", name := "termOf", desc := "(I)I" } : Jvm.MethodName)) ∈ gTb := gT_5 15 rfl rfl
theorem gw_976 : (Jvm.Cond.code ({ cls := "LogDiskModel", name := "termOf", desc := "(I)I" } : Jvm.MethodName) prog_12_method_25_code (2 : Nat) (Option.some Jvm.ClassFile.FieldType.int)) ∈ gTb := gT_5 16 rfl rfl
theorem gw_977 : (Jvm.Cond.methodLink "LogDiskModel" (178 : Nat) ({ cls := "LogDiskModel", name := "freeFile", desc := "()I" } : Jvm.MethodName)) ∈ gTb := gT_5 17 rfl rfl
theorem gw_979 : (Jvm.Cond.instanceMethod ({ cls := "LogDiskModel", name := "freeFile", desc := "()I" } : Jvm.MethodName)) ∈ gTb := gT_5 19 rfl rfl
theorem gw_980 : (Jvm.Cond.code ({ cls := "LogDiskModel", name := "freeFile", desc := "()I" } : Jvm.MethodName) prog_12_method_26_code (2 : Nat) (Option.some Jvm.ClassFile.FieldType.int)) ∈ gTb := gT_5 20 rfl rfl
theorem gw_981 : (Jvm.Cond.methodLink "LogDiskModel" (181 : Nat) ({ cls := "LogDiskModel", name := "hasRoom", desc := "(II)Z" } : Jvm.MethodName)) ∈ gTb := gT_5 21 rfl rfl
theorem gw_983 : (Jvm.Cond.instanceMethod ({ cls := "LogDiskModel", name := "hasRoom", desc := "(II)Z" } : Jvm.MethodName)) ∈ gTb := gT_5 23 rfl rfl
theorem gw_984 : (Jvm.Cond.code ({ cls := "LogDiskModel", name := "hasRoom", desc := "(II)Z" } : Jvm.MethodName) prog_12_method_16_code (3 : Nat) (Option.some Jvm.ClassFile.FieldType.boolean)) ∈ gTb := gT_5 24 rfl rfl
theorem gw_985 : (Jvm.Cond.methodLink "LogDiskModel" (108 : Nat) ({ cls := "LogDiskModel", name := "needed", desc := "(II)I" } : Jvm.MethodName)) ∈ gTb := gT_5 25 rfl rfl
theorem gw_987 : (Jvm.Cond.instanceMethod ({ cls := "LogDiskModel", name := "needed", desc := "(II)I" } : Jvm.MethodName)) ∈ gTb := gT_5 27 rfl rfl
theorem gw_988 : (Jvm.Cond.code ({ cls := "LogDiskModel", name := "needed", desc := "(II)I" } : Jvm.MethodName) prog_12_method_15_code (4 : Nat) (Option.some Jvm.ClassFile.FieldType.int)) ∈ gTb := gT_5 28 rfl rfl
theorem gw_989 : (Jvm.Cond.methodLink "LogDiskModel" (184 : Nat) ({ cls := "LogDiskModel", name := "fill", desc := "(II)V" } : Jvm.MethodName)) ∈ gTb := gT_5 29 rfl rfl
theorem gw_991 : (Jvm.Cond.instanceMethod ({ cls := "LogDiskModel", name := "fill", desc := "(II)V" } : Jvm.MethodName)) ∈ gTb := gT_5 31 rfl rfl
theorem gw_992 : (Jvm.Cond.code ({ cls := "LogDiskModel", name := "fill", desc := "(II)V" } : Jvm.MethodName) prog_12_method_6_code (4 : Nat) (Option.none : Option Jvm.ClassFile.FieldType)) ∈ gTb := gT_5 32 rfl rfl
theorem gw_993 : (Jvm.Cond.methodLink "LogDiskLaw" (97 : Nat) ({ cls := "LogDiskModel", name := "cutFrom", desc := "(I)I" } : Jvm.MethodName)) ∈ gTb := gT_5 33 rfl rfl
theorem gw_994 : (Jvm.Cond.instanceMethod ({ cls := "LogDiskModel", name := "cutFrom", desc := "(I)I" } : Jvm.MethodName)) ∈ gTb := gT_5 34 rfl rfl
theorem gw_995 : (Jvm.Cond.selects "LogDiskModel" ({ cls := "LogDiskModel", name := "cutFrom", desc := "(I)I" } : Jvm.MethodName) ({ cls := "LogDiskModel", name := "cutFrom", desc := "(I)I" } : Jvm.MethodName)) ∈ gTb := gT_5 35 rfl rfl
theorem gw_996 : (Jvm.Cond.code ({ cls := "LogDiskModel", name := "cutFrom", desc := "(I)I" } : Jvm.MethodName) prog_12_method_30_code (5 : Nat) (Option.some Jvm.ClassFile.FieldType.int)) ∈ gTb := gT_5 36 rfl rfl
theorem gw_997 : (Jvm.Cond.methodLink "LogDiskModel" (187 : Nat) ({ cls := "LogDiskModel", name := "firstOf", desc := "(I)I" } : Jvm.MethodName)) ∈ gTb := gT_5 37 rfl rfl
theorem gw_999 : (Jvm.Cond.instanceMethod ({ cls := "LogDiskModel", name := "firstOf", desc := "(I)I" } : Jvm.MethodName)) ∈ gTb := gT_5 39 rfl rfl
theorem gw_1000 : (Jvm.Cond.code ({ cls := "LogDiskModel", name := "firstOf", desc := "(I)I" } : Jvm.MethodName) prog_12_method_28_code (2 : Nat) (Option.some Jvm.ClassFile.FieldType.int)) ∈ gTb := gT_5 40 rfl rfl
theorem gw_1001 : (Jvm.Cond.methodLink "LogDiskModel" (190 : Nat) ({ cls := "LogDiskModel", name := "remove", desc := "(I)V" } : Jvm.MethodName)) ∈ gTb := gT_5 41 rfl rfl
theorem gw_1003 : (Jvm.Cond.instanceMethod ({ cls := "LogDiskModel", name := "remove", desc := "(I)V" } : Jvm.MethodName)) ∈ gTb := gT_5 43 rfl rfl
theorem gw_1004 : (Jvm.Cond.code ({ cls := "LogDiskModel", name := "remove", desc := "(I)V" } : Jvm.MethodName) prog_12_method_19_code (2 : Nat) (Option.none : Option Jvm.ClassFile.FieldType)) ∈ gTb := gT_5 44 rfl rfl
theorem gw_1005 : (Jvm.Cond.methodLink "LogDiskModel" (194 : Nat) ({ cls := "LogDiskModel", name := "placeIn", desc := "(II)I" } : Jvm.MethodName)) ∈ gTb := gT_5 45 rfl rfl
theorem gw_1007 : (Jvm.Cond.instanceMethod ({ cls := "LogDiskModel", name := "placeIn", desc := "(II)I" } : Jvm.MethodName)) ∈ gTb := gT_5 47 rfl rfl
theorem gw_1008 : (Jvm.Cond.code ({ cls := "LogDiskModel", name := "placeIn", desc := "(II)I" } : Jvm.MethodName) prog_12_method_29_code (5 : Nat) (Option.some Jvm.ClassFile.FieldType.int)) ∈ gTb := gT_5 48 rfl rfl
theorem gw_1009 : (Jvm.Cond.methodLink "LogDiskLaw" (100 : Nat) ({ cls := "LogDiskModel", name := "compact", desc := "(II)I" } : Jvm.MethodName)) ∈ gTb := gT_5 49 rfl rfl
theorem gw_1010 : (Jvm.Cond.instanceMethod ({ cls := "LogDiskModel", name := "compact", desc := "(II)I" } : Jvm.MethodName)) ∈ gTb := gT_5 50 rfl rfl
theorem gw_1011 : (Jvm.Cond.selects "LogDiskModel" ({ cls := "LogDiskModel", name := "compact", desc := "(II)I" } : Jvm.MethodName) ({ cls := "LogDiskModel", name := "compact", desc := "(II)I" } : Jvm.MethodName)) ∈ gTb := gT_5 51 rfl rfl
theorem gw_1012 : (Jvm.Cond.code ({ cls := "LogDiskModel", name := "compact", desc := "(II)I" } : Jvm.MethodName) prog_12_method_34_code (6 : Nat) (Option.some Jvm.ClassFile.FieldType.int)) ∈ gTb := gT_5 52 rfl rfl
theorem gw_1013 : (Jvm.Cond.methodLink "LogDiskModel" (203 : Nat) ({ cls := "LogDiskModel", name := "write", desc := "(IIII)Z" } : Jvm.MethodName)) ∈ gTb := gT_5 53 rfl rfl
theorem gw_1015 : (Jvm.Cond.instanceMethod ({ cls := "LogDiskModel", name := "write", desc := "(IIII)Z" } : Jvm.MethodName)) ∈ gTb := gT_5 55 rfl rfl
theorem gw_1016 : (Jvm.Cond.code ({ cls := "LogDiskModel", name := "write", desc := "(IIII)Z" } : Jvm.MethodName) prog_12_method_33_code (7 : Nat) (Option.some Jvm.ClassFile.FieldType.boolean)) ∈ gTb := gT_5 56 rfl rfl
theorem gw_1017 : (Jvm.Cond.methodLink "LogDiskModel" (200 : Nat) ({ cls := "LogDiskModel", name := "settle", desc := "(I)V" } : Jvm.MethodName)) ∈ gTb := gT_5 57 rfl rfl
theorem gw_1019 : (Jvm.Cond.instanceMethod ({ cls := "LogDiskModel", name := "settle", desc := "(I)V" } : Jvm.MethodName)) ∈ gTb := gT_5 59 rfl rfl
theorem gw_1020 : (Jvm.Cond.code ({ cls := "LogDiskModel", name := "settle", desc := "(I)V" } : Jvm.MethodName) prog_12_method_22_code (2 : Nat) (Option.none : Option Jvm.ClassFile.FieldType)) ∈ gTb := gT_5 60 rfl rfl
theorem gw_1021 : (Jvm.Cond.methodLink "LogDiskModel" (122 : Nat) ({ cls := "LogDiskModel", name := "copy", desc := "(II)V" } : Jvm.MethodName)) ∈ gTb := gT_5 61 rfl rfl
theorem gw_1023 : (Jvm.Cond.instanceMethod ({ cls := "LogDiskModel", name := "copy", desc := "(II)V" } : Jvm.MethodName)) ∈ gTb := gT_5 63 rfl rfl
theorem gw_1024 : (Jvm.Cond.code ({ cls := "LogDiskModel", name := "copy", desc := "(II)V" } : Jvm.MethodName) prog_12_method_21_code (4 : Nat) (Option.none : Option Jvm.ClassFile.FieldType)) ∈ gTb := gT_5 64 rfl rfl
theorem gw_1025 : (Jvm.Cond.methodLink "LogDiskModel" (207 : Nat) ({ cls := "LogDiskModel", name := "rebase", desc := "(II)V" } : Jvm.MethodName)) ∈ gTb := gT_5 65 rfl rfl
theorem gw_1027 : (Jvm.Cond.instanceMethod ({ cls := "LogDiskModel", name := "rebase", desc := "(II)V" } : Jvm.MethodName)) ∈ gTb := gT_5 67 rfl rfl
theorem gw_1028 : (Jvm.Cond.code ({ cls := "LogDiskModel", name := "rebase", desc := "(II)V" } : Jvm.MethodName) prog_12_method_32_code (5 : Nat) (Option.none : Option Jvm.ClassFile.FieldType)) ∈ gTb := gT_5 68 rfl rfl
theorem gw_1029 : (Jvm.Cond.methodLink "LogDiskModel" (197 : Nat) ({ cls := "LogDiskModel", name := "lastOf", desc := "(I)I" } : Jvm.MethodName)) ∈ gTb := gT_5 69 rfl rfl
theorem gw_1031 : (Jvm.Cond.instanceMethod ({ cls := "LogDiskModel", name := "lastOf", desc := "(I)I" } : Jvm.MethodName)) ∈ gTb := gT_5 71 rfl rfl
theorem gw_1032 : (Jvm.Cond.code ({ cls := "LogDiskModel", name := "lastOf", desc := "(I)I" } : Jvm.MethodName) prog_12_method_31_code (2 : Nat) (Option.some Jvm.ClassFile.FieldType.int)) ∈ gTb := gT_5 72 rfl rfl
theorem gw_1033 : (Jvm.Cond.methodLink "LogDiskLaw" (104 : Nat) ({ cls := "LogDiskModel", name := "take", desc := "(III)I" } : Jvm.MethodName)) ∈ gTb := gT_5 73 rfl rfl
theorem gw_1034 : (Jvm.Cond.instanceMethod ({ cls := "LogDiskModel", name := "take", desc := "(III)I" } : Jvm.MethodName)) ∈ gTb := gT_5 74 rfl rfl
theorem gw_1035 : (Jvm.Cond.selects "LogDiskModel" ({ cls := "LogDiskModel", name := "take", desc := "(III)I" } : Jvm.MethodName) ({ cls := "LogDiskModel", name := "take", desc := "(III)I" } : Jvm.MethodName)) ∈ gTb := gT_5 75 rfl rfl
theorem gw_1036 : (Jvm.Cond.code ({ cls := "LogDiskModel", name := "take", desc := "(III)I" } : Jvm.MethodName) prog_12_method_35_code (6 : Nat) (Option.some Jvm.ClassFile.FieldType.int)) ∈ gTb := gT_5 76 rfl rfl
theorem gw_1037 : (Jvm.Cond.methodLink "LogDiskLaw" (109 : Nat) ({ cls := "LogDiskModel", name := "sync", desc := "()Z" } : Jvm.MethodName)) ∈ gTb := gT_5 77 rfl rfl
theorem gw_1038 : (Jvm.Cond.instanceMethod ({ cls := "LogDiskModel", name := "sync", desc := "()Z" } : Jvm.MethodName)) ∈ gTb := gT_5 78 rfl rfl
theorem gw_1039 : (Jvm.Cond.selects "LogDiskModel" ({ cls := "LogDiskModel", name := "sync", desc := "()Z" } : Jvm.MethodName) ({ cls := "LogDiskModel", name := "sync", desc := "()Z" } : Jvm.MethodName)) ∈ gTb := gT_5 79 rfl rfl
theorem gw_1040 : (Jvm.Cond.code ({ cls := "LogDiskModel", name := "sync", desc := "()Z" } : Jvm.MethodName) prog_12_method_36_code (3 : Nat) (Option.some Jvm.ClassFile.FieldType.boolean)) ∈ gTb := gT_5 80 rfl rfl
theorem gw_1041 : (Jvm.Cond.methodLink "LogDiskLaw" (113 : Nat) ({ cls := "LogDiskModel", name := "keep", desc := "(II)V" } : Jvm.MethodName)) ∈ gTb := gT_5 81 rfl rfl
theorem gw_1042 : (Jvm.Cond.instanceMethod ({ cls := "LogDiskModel", name := "keep", desc := "(II)V" } : Jvm.MethodName)) ∈ gTb := gT_5 82 rfl rfl
theorem gw_1043 : (Jvm.Cond.selects "LogDiskModel" ({ cls := "LogDiskModel", name := "keep", desc := "(II)V" } : Jvm.MethodName) ({ cls := "LogDiskModel", name := "keep", desc := "(II)V" } : Jvm.MethodName)) ∈ gTb := gT_5 83 rfl rfl
theorem gw_1044 : (Jvm.Cond.code ({ cls := "LogDiskModel", name := "keep", desc := "(II)V" } : Jvm.MethodName) prog_12_method_37_code (3 : Nat) (Option.none : Option Jvm.ClassFile.FieldType)) ∈ gTb := gT_5 84 rfl rfl
theorem gw_1045 : (Jvm.Cond.methodLink "LogDiskLaw" (118 : Nat) ({ cls := "LogDiskModel", name := "crash", desc := "(J)I" } : Jvm.MethodName)) ∈ gTb := gT_5 85 rfl rfl
theorem gw_1046 : (Jvm.Cond.instanceMethod ({ cls := "LogDiskModel", name := "crash", desc := "(J)I" } : Jvm.MethodName)) ∈ gTb := gT_5 86 rfl rfl
theorem gw_1047 : (Jvm.Cond.selects "LogDiskModel" ({ cls := "LogDiskModel", name := "crash", desc := "(J)I" } : Jvm.MethodName) ({ cls := "LogDiskModel", name := "crash", desc := "(J)I" } : Jvm.MethodName)) ∈ gTb := gT_5 87 rfl rfl
theorem gw_1048 : (Jvm.Cond.code ({ cls := "LogDiskModel", name := "crash", desc := "(J)I" } : Jvm.MethodName) prog_12_method_46_code (9 : Nat) (Option.some Jvm.ClassFile.FieldType.int)) ∈ gTb := gT_5 88 rfl rfl
theorem gw_1049 : (Jvm.Cond.constantLong "LogDiskModel" (217 : Nat) (6364136223846793005 : Int64)) ∈ gTb := gT_5 89 rfl rfl
theorem gw_1050 : (Jvm.Cond.constantLong "LogDiskModel" (219 : Nat) (1442695040888963407 : Int64)) ∈ gTb := gT_5 90 rfl rfl
theorem gw_1051 : (Jvm.Cond.constantLong "LogDiskModel" (221 : Nat) (1048575 : Int64)) ∈ gTb := gT_5 91 rfl rfl
theorem gw_1052 : (Jvm.Cond.constantLong "LogDiskModel" (223 : Nat) (2 : Int64)) ∈ gTb := gT_5 92 rfl rfl
theorem gw_1053 : (Jvm.Cond.methodLink "LogDiskModel" (225 : Nat) ({ cls := "LogDiskModel", name := "crashFile", desc := "(II)V" } : Jvm.MethodName)) ∈ gTb := gT_5 93 rfl rfl
theorem gw_1055 : (Jvm.Cond.instanceMethod ({ cls := "LogDiskModel", name := "crashFile", desc := "(II)V" } : Jvm.MethodName)) ∈ gTb := gT_5 95 rfl rfl
theorem gw_1056 : (Jvm.Cond.code ({ cls := "LogDiskModel", name := "crashFile", desc := "(II)V" } : Jvm.MethodName) prog_12_method_38_code (3 : Nat) (Option.none : Option Jvm.ClassFile.FieldType)) ∈ gTb := gT_5 96 rfl rfl
theorem gw_1057 : (Jvm.Cond.methodLink "LogDiskModel" (228 : Nat) ({ cls := "LogDiskModel", name := "findSlots", desc := "()V" } : Jvm.MethodName)) ∈ gTb := gT_5 97 rfl rfl
theorem gw_1059 : (Jvm.Cond.instanceMethod ({ cls := "LogDiskModel", name := "findSlots", desc := "()V" } : Jvm.MethodName)) ∈ gTb := gT_5 99 rfl rfl
theorem gw_1060 : (Jvm.Cond.code ({ cls := "LogDiskModel", name := "findSlots", desc := "()V" } : Jvm.MethodName) prog_12_method_40_code (3 : Nat) (Option.none : Option Jvm.ClassFile.FieldType)) ∈ gTb := gT_5 100 rfl rfl
theorem gw_1061 : (Jvm.Cond.methodLink "LogDiskModel" (210 : Nat) ({ cls := "LogDiskModel", name := "whole", desc := "(I)I" } : Jvm.MethodName)) ∈ gTb := gT_5 101 rfl rfl
theorem gw_1063 : (Jvm.Cond.instanceMethod ({ cls := "LogDiskModel", name := "whole", desc := "(I)I" } : Jvm.MethodName)) ∈ gTb := gT_5 103 rfl rfl
theorem gw_1064 : (Jvm.Cond.code ({ cls := "LogDiskModel", name := "whole", desc := "(I)I" } : Jvm.MethodName) prog_12_method_39_code (5 : Nat) (Option.some Jvm.ClassFile.FieldType.int)) ∈ gTb := gT_5 104 rfl rfl
theorem gw_1065 : (Jvm.Cond.methodLink "LogDiskModel" (231 : Nat) ({ cls := "LogDiskModel", name := "findSnapshot", desc := "()V" } : Jvm.MethodName)) ∈ gTb := gT_5 105 rfl rfl
theorem gw_1067 : (Jvm.Cond.instanceMethod ({ cls := "LogDiskModel", name := "findSnapshot", desc := "()V" } : Jvm.MethodName)) ∈ gTb := gT_5 107 rfl rfl
theorem gw_1068 : (Jvm.Cond.code ({ cls := "LogDiskModel", name := "findSnapshot", desc := "()V" } : Jvm.MethodName) prog_12_method_41_code (3 : Nat) (Option.none : Option Jvm.ClassFile.FieldType)) ∈ gTb := gT_5 108 rfl rfl
theorem gw_1069 : (Jvm.Cond.methodLink "LogDiskModel" (234 : Nat) ({ cls := "LogDiskModel", name := "firstSegment", desc := "()I" } : Jvm.MethodName)) ∈ gTb := gT_5 109 rfl rfl
theorem gw_1071 : (Jvm.Cond.instanceMethod ({ cls := "LogDiskModel", name := "firstSegment", desc := "()I" } : Jvm.MethodName)) ∈ gTb := gT_5 111 rfl rfl
theorem gw_1072 : (Jvm.Cond.code ({ cls := "LogDiskModel", name := "firstSegment", desc := "()I" } : Jvm.MethodName) prog_12_method_42_code (3 : Nat) (Option.some Jvm.ClassFile.FieldType.int)) ∈ gTb := gT_5 112 rfl rfl
theorem gw_1073 : (Jvm.Cond.methodLink "LogDiskModel" (237 : Nat) ({ cls := "LogDiskModel", name := "join", desc := "(I)V" } : Jvm.MethodName)) ∈ gTb := gT_5 113 rfl rfl
theorem gw_1075 : (Jvm.Cond.instanceMethod ({ cls := "LogDiskModel", name := "join", desc := "(I)V" } : Jvm.MethodName)) ∈ gTb := gT_5 115 rfl rfl
theorem gw_1076 : (Jvm.Cond.code ({ cls := "LogDiskModel", name := "join", desc := "(I)V" } : Jvm.MethodName) prog_12_method_43_code (6 : Nat) (Option.none : Option Jvm.ClassFile.FieldType)) ∈ gTb := gT_5 116 rfl rfl
theorem gw_1077 : (Jvm.Cond.methodLink "LogDiskModel" (240 : Nat) ({ cls := "LogDiskModel", name := "nextSegment", desc := "()I" } : Jvm.MethodName)) ∈ gTb := gT_5 117 rfl rfl
theorem gw_1079 : (Jvm.Cond.instanceMethod ({ cls := "LogDiskModel", name := "nextSegment", desc := "()I" } : Jvm.MethodName)) ∈ gTb := gT_5 119 rfl rfl
theorem gw_1080 : (Jvm.Cond.code ({ cls := "LogDiskModel", name := "nextSegment", desc := "()I" } : Jvm.MethodName) prog_12_method_45_code (2 : Nat) (Option.some Jvm.ClassFile.FieldType.int)) ∈ gTb := gT_5 120 rfl rfl
theorem gw_1081 : (Jvm.Cond.methodLink "LogDiskModel" (213 : Nat) ({ cls := "LogDiskModel", name := "isJoined", desc := "(I)Z" } : Jvm.MethodName)) ∈ gTb := gT_5 121 rfl rfl
theorem gw_1083 : (Jvm.Cond.instanceMethod ({ cls := "LogDiskModel", name := "isJoined", desc := "(I)Z" } : Jvm.MethodName)) ∈ gTb := gT_5 123 rfl rfl
theorem gw_1084 : (Jvm.Cond.code ({ cls := "LogDiskModel", name := "isJoined", desc := "(I)Z" } : Jvm.MethodName) prog_12_method_44_code (4 : Nat) (Option.some Jvm.ClassFile.FieldType.boolean)) ∈ gTb := gT_5 124 rfl rfl
theorem gw_1085 : (Jvm.Cond.methodLink "LogDiskLaw" (121 : Nat) ({ cls := "LogDiskModel", name := "state", desc := "(I)I" } : Jvm.MethodName)) ∈ gTb := gT_5 125 rfl rfl
theorem gw_1086 : (Jvm.Cond.instanceMethod ({ cls := "LogDiskModel", name := "state", desc := "(I)I" } : Jvm.MethodName)) ∈ gTb := gT_5 126 rfl rfl
theorem gw_1087 : (Jvm.Cond.selects "LogDiskModel" ({ cls := "LogDiskModel", name := "state", desc := "(I)I" } : Jvm.MethodName) ({ cls := "LogDiskModel", name := "state", desc := "(I)I" } : Jvm.MethodName)) ∈ gTb := gT_5 127 rfl rfl
theorem gw_1088 : (Jvm.Cond.code ({ cls := "LogDiskModel", name := "state", desc := "(I)I" } : Jvm.MethodName) prog_12_method_47_code (2 : Nat) (Option.some Jvm.ClassFile.FieldType.int)) ∈ gTb := gT_5 128 rfl rfl
theorem gw_1089 : (Jvm.Cond.methodLink "LogDiskLaw" (124 : Nat) ({ cls := "LogDiskModel", name := "entry", desc := "(II)I" } : Jvm.MethodName)) ∈ gTb := gT_5 129 rfl rfl
theorem gw_1090 : (Jvm.Cond.instanceMethod ({ cls := "LogDiskModel", name := "entry", desc := "(II)I" } : Jvm.MethodName)) ∈ gTb := gT_5 130 rfl rfl
theorem gw_1091 : (Jvm.Cond.selects "LogDiskModel" ({ cls := "LogDiskModel", name := "entry", desc := "(II)I" } : Jvm.MethodName) ({ cls := "LogDiskModel", name := "entry", desc := "(II)I" } : Jvm.MethodName)) ∈ gTb := gT_5 131 rfl rfl
theorem gw_1092 : (Jvm.Cond.code ({ cls := "LogDiskModel", name := "entry", desc := "(II)I" } : Jvm.MethodName) prog_12_method_49_code (5 : Nat) (Option.some Jvm.ClassFile.FieldType.int)) ∈ gTb := gT_5 132 rfl rfl
theorem gw_1093 : (Jvm.Cond.methodLink "LogDiskModel" (243 : Nat) ({ cls := "LogDiskModel", name := "fileOf", desc := "(I)I" } : Jvm.MethodName)) ∈ gTb := gT_5 133 rfl rfl
theorem gw_1095 : (Jvm.Cond.instanceMethod ({ cls := "LogDiskModel", name := "fileOf", desc := "(I)I" } : Jvm.MethodName)) ∈ gTb := gT_5 135 rfl rfl
theorem gw_1096 : (Jvm.Cond.code ({ cls := "LogDiskModel", name := "fileOf", desc := "(I)I" } : Jvm.MethodName) prog_12_method_48_code (4 : Nat) (Option.some Jvm.ClassFile.FieldType.int)) ∈ gTb := gT_5 136 rfl rfl
theorem gw_1097 : (Jvm.Cond.methodLink "LogDiskLaw" (127 : Nat) ({ cls := "LogDiskModel", name := "contentAt", desc := "(II)I" } : Jvm.MethodName)) ∈ gTb := gT_5 137 rfl rfl
theorem gw_1098 : (Jvm.Cond.instanceMethod ({ cls := "LogDiskModel", name := "contentAt", desc := "(II)I" } : Jvm.MethodName)) ∈ gTb := gT_5 138 rfl rfl
theorem gw_1099 : (Jvm.Cond.selects "LogDiskModel" ({ cls := "LogDiskModel", name := "contentAt", desc := "(II)I" } : Jvm.MethodName) ({ cls := "LogDiskModel", name := "contentAt", desc := "(II)I" } : Jvm.MethodName)) ∈ gTb := gT_5 139 rfl rfl
theorem gw_1100 : (Jvm.Cond.code ({ cls := "LogDiskModel", name := "contentAt", desc := "(II)I" } : Jvm.MethodName) prog_12_method_50_code (4 : Nat) (Option.some Jvm.ClassFile.FieldType.int)) ∈ gTb := gT_5 140 rfl rfl
theorem gw_1101 : (Jvm.Cond.methodLink "LogDiskLaw" (130 : Nat) ({ cls := "LogDiskModel", name := "snapshotAt", desc := "(I)I" } : Jvm.MethodName)) ∈ gTb := gT_5 141 rfl rfl
theorem gw_1102 : (Jvm.Cond.instanceMethod ({ cls := "LogDiskModel", name := "snapshotAt", desc := "(I)I" } : Jvm.MethodName)) ∈ gTb := gT_5 142 rfl rfl
theorem gw_1103 : (Jvm.Cond.selects "LogDiskModel" ({ cls := "LogDiskModel", name := "snapshotAt", desc := "(I)I" } : Jvm.MethodName) ({ cls := "LogDiskModel", name := "snapshotAt", desc := "(I)I" } : Jvm.MethodName)) ∈ gTb := gT_5 143 rfl rfl
theorem gw_1104 : (Jvm.Cond.code ({ cls := "LogDiskModel", name := "snapshotAt", desc := "(I)I" } : Jvm.MethodName) prog_12_method_51_code (2 : Nat) (Option.some Jvm.ClassFile.FieldType.int)) ∈ gTb := gT_5 144 rfl rfl
theorem gw_1105 : (Jvm.Cond.methodLink "LogDiskLaw" (133 : Nat) ({ cls := "LogDiskModel", name := "segment", desc := "(II)I" } : Jvm.MethodName)) ∈ gTb := gT_5 145 rfl rfl
theorem gw_1106 : (Jvm.Cond.instanceMethod ({ cls := "LogDiskModel", name := "segment", desc := "(II)I" } : Jvm.MethodName)) ∈ gTb := gT_5 146 rfl rfl
theorem gw_1107 : (Jvm.Cond.selects "LogDiskModel" ({ cls := "LogDiskModel", name := "segment", desc := "(II)I" } : Jvm.MethodName) ({ cls := "LogDiskModel", name := "segment", desc := "(II)I" } : Jvm.MethodName)) ∈ gTb := gT_5 147 rfl rfl
theorem gw_1108 : (Jvm.Cond.code ({ cls := "LogDiskModel", name := "segment", desc := "(II)I" } : Jvm.MethodName) prog_12_method_52_code (3 : Nat) (Option.some Jvm.ClassFile.FieldType.int)) ∈ gTb := gT_5 148 rfl rfl
theorem gw_1109 : (Jvm.Cond.methodLink "LogDiskLaw" (136 : Nat) ({ cls := "LogDiskModel", name := "file", desc := "(II)I" } : Jvm.MethodName)) ∈ gTb := gT_5 149 rfl rfl
theorem gw_1110 : (Jvm.Cond.instanceMethod ({ cls := "LogDiskModel", name := "file", desc := "(II)I" } : Jvm.MethodName)) ∈ gTb := gT_5 150 rfl rfl
theorem gw_1111 : (Jvm.Cond.selects "LogDiskModel" ({ cls := "LogDiskModel", name := "file", desc := "(II)I" } : Jvm.MethodName) ({ cls := "LogDiskModel", name := "file", desc := "(II)I" } : Jvm.MethodName)) ∈ gTb := gT_5 151 rfl rfl
theorem gw_1112 : (Jvm.Cond.code ({ cls := "LogDiskModel", name := "file", desc := "(II)I" } : Jvm.MethodName) prog_12_method_53_code (3 : Nat) (Option.some Jvm.ClassFile.FieldType.int)) ∈ gTb := gT_5 152 rfl rfl
theorem gw_1113 : (Jvm.Cond.methodLink "LogDiskLaw" (139 : Nat) ({ cls := "LogDiskModel", name := "byteAt", desc := "(II)I" } : Jvm.MethodName)) ∈ gTb := gT_5 153 rfl rfl
theorem gw_1114 : (Jvm.Cond.instanceMethod ({ cls := "LogDiskModel", name := "byteAt", desc := "(II)I" } : Jvm.MethodName)) ∈ gTb := gT_5 154 rfl rfl
theorem gw_1115 : (Jvm.Cond.selects "LogDiskModel" ({ cls := "LogDiskModel", name := "byteAt", desc := "(II)I" } : Jvm.MethodName) ({ cls := "LogDiskModel", name := "byteAt", desc := "(II)I" } : Jvm.MethodName)) ∈ gTb := gT_5 155 rfl rfl
theorem gw_1116 : (Jvm.Cond.code ({ cls := "LogDiskModel", name := "byteAt", desc := "(II)I" } : Jvm.MethodName) prog_12_method_54_code (5 : Nat) (Option.some Jvm.ClassFile.FieldType.int)) ∈ gTb := gT_5 156 rfl rfl
theorem gw_1117 : (Jvm.Cond.methodLink "LogDiskModel" (246 : Nat) ({ cls := "LogDiskModel", name := "frameAt", desc := "(II)I" } : Jvm.MethodName)) ∈ gTb := gT_5 157 rfl rfl
theorem gw_1119 : (Jvm.Cond.instanceMethod ({ cls := "LogDiskModel", name := "frameAt", desc := "(II)I" } : Jvm.MethodName)) ∈ gTb := gT_5 159 rfl rfl
theorem gw_1120 : (Jvm.Cond.code ({ cls := "LogDiskModel", name := "frameAt", desc := "(II)I" } : Jvm.MethodName) prog_12_method_12_code (3 : Nat) (Option.some Jvm.ClassFile.FieldType.int)) ∈ gTb := gT_5 160 rfl rfl
theorem gw_1121 : (Jvm.Cond.methodLink "LogDiskModel" (102 : Nat) ({ cls := "LogDiskModel", name := "sumOf", desc := "(I)I" } : Jvm.MethodName)) ∈ gTb := gT_5 161 rfl rfl
theorem gw_1123 : (Jvm.Cond.instanceMethod ({ cls := "LogDiskModel", name := "sumOf", desc := "(I)I" } : Jvm.MethodName)) ∈ gTb := gT_5 163 rfl rfl
theorem gw_1124 : (Jvm.Cond.code ({ cls := "LogDiskModel", name := "sumOf", desc := "(I)I" } : Jvm.MethodName) prog_12_method_11_code (5 : Nat) (Option.some Jvm.ClassFile.FieldType.int)) ∈ gTb := gT_5 164 rfl rfl
theorem gw_1125 : (Jvm.Cond.methodLink "LogDiskModel" (97 : Nat) ({ cls := "LogDiskModel", name := "payloadAt", desc := "(II)I" } : Jvm.MethodName)) ∈ gTb := gT_5 165 rfl rfl
theorem gw_1127 : (Jvm.Cond.instanceMethod ({ cls := "LogDiskModel", name := "payloadAt", desc := "(II)I" } : Jvm.MethodName)) ∈ gTb := gT_5 167 rfl rfl
theorem gw_1128 : (Jvm.Cond.code ({ cls := "LogDiskModel", name := "payloadAt", desc := "(II)I" } : Jvm.MethodName) prog_12_method_10_code (3 : Nat) (Option.some Jvm.ClassFile.FieldType.int)) ∈ gTb := gT_5 168 rfl rfl
theorem gw_1129 : (Jvm.Cond.constant "LogDiskModel" (101 : Nat) (-306674912 : Int32)) ∈ gTb := gT_5 169 rfl rfl
theorem gw_1130 : (Jvm.Cond.constantLong "LogDiskLaw" (77 : Nat) (4294967295 : Int64)) ∈ gTb := gT_5 170 rfl rfl
theorem gw_1131 : (Jvm.Cond.arrayClass Jvm.ClassFile.FieldType.long) ∈ gTb := gT_5 171 rfl rfl
theorem gw_1132 : (Jvm.Cond.sameMethod "java/lang/Throwable" "java/lang/Throwable" "fillInStackTrace" "(I)Ljava/lang/Throwable;") ∈ gTb := gT_5 172 rfl rfl
