section
-- ===== PART A: goes FIRST, ahead of the names: the tables' words, and 'selects' of the private methods out of them =====
/-- a private method of a class that the tables say can be made, by its rows of tables_1 -/
def lw_okq (q : MethodName × Nat) : Prop := (q.1.cls ≠ "java/lang/invoke/MethodHandle" ∧ q.1.cls ≠ "java/lang/invoke/VarHandle") ∧ Cond.instantiable q.1.cls q.2 ∈ tables_1 ∧ Cond.privateMethod q.1 ∈ tables_1 ∧ Cond.instanceMethod q.1 ∈ tables_1
theorem lw_p0 : lw_okq (⟨"LogDisk", "syncFiles", "()V"⟩, 12) := ⟨⟨by decide +kernel, by decide +kernel⟩, List.mem_of_getElem? (i := 23) (by decide +kernel), List.mem_of_getElem? (i := 271) (by decide +kernel), List.mem_of_getElem? (i := 272) (by decide +kernel)⟩
theorem lw_p1 : lw_okq (⟨"LogDisk", "crashFiles", "(J)V"⟩, 12) := ⟨⟨by decide +kernel, by decide +kernel⟩, List.mem_of_getElem? (i := 23) (by decide +kernel), List.mem_of_getElem? (i := 302) (by decide +kernel), List.mem_of_getElem? (i := 303) (by decide +kernel)⟩
theorem lw_p2 : lw_okq (⟨"LogDisk", "findVote", "()V"⟩, 12) := ⟨⟨by decide +kernel, by decide +kernel⟩, List.mem_of_getElem? (i := 23) (by decide +kernel), List.mem_of_getElem? (i := 325) (by decide +kernel), List.mem_of_getElem? (i := 326) (by decide +kernel)⟩
theorem lw_p3 : lw_okq (⟨"LogDisk", "findSnapshot", "()V"⟩, 12) := ⟨⟨by decide +kernel, by decide +kernel⟩, List.mem_of_getElem? (i := 23) (by decide +kernel), List.mem_of_getElem? (i := 356) (by decide +kernel), List.mem_of_getElem? (i := 357) (by decide +kernel)⟩
theorem lw_p4 : lw_okq (⟨"LogDisk", "findLog", "()V"⟩, 12) := ⟨⟨by decide +kernel, by decide +kernel⟩, List.mem_of_getElem? (i := 23) (by decide +kernel), List.mem_of_getElem? (i := 364) (by decide +kernel), List.mem_of_getElem? (i := 365) (by decide +kernel)⟩
theorem lw_p5 : lw_okq (⟨"LogDisk", "firstSegment", "()I"⟩, 12) := ⟨⟨by decide +kernel, by decide +kernel⟩, List.mem_of_getElem? (i := 23) (by decide +kernel), List.mem_of_getElem? (i := 368) (by decide +kernel), List.mem_of_getElem? (i := 369) (by decide +kernel)⟩
theorem lw_p6 : lw_okq (⟨"LogDisk", "readSegment", "(I)I"⟩, 12) := ⟨⟨by decide +kernel, by decide +kernel⟩, List.mem_of_getElem? (i := 23) (by decide +kernel), List.mem_of_getElem? (i := 377) (by decide +kernel), List.mem_of_getElem? (i := 378) (by decide +kernel)⟩
theorem lw_p7 : lw_okq (⟨"LogDisk", "holdsBase", "(II)Z"⟩, 12) := ⟨⟨by decide +kernel, by decide +kernel⟩, List.mem_of_getElem? (i := 23) (by decide +kernel), List.mem_of_getElem? (i := 394) (by decide +kernel), List.mem_of_getElem? (i := 395) (by decide +kernel)⟩
theorem lw_p8 : lw_okq (⟨"LogDisk", "followSegments", "(II)V"⟩, 12) := ⟨⟨by decide +kernel, by decide +kernel⟩, List.mem_of_getElem? (i := 23) (by decide +kernel), List.mem_of_getElem? (i := 403) (by decide +kernel), List.mem_of_getElem? (i := 404) (by decide +kernel)⟩
theorem lw_p9 : lw_okq (⟨"LogDisk", "segmentBehind", "(II)I"⟩, 12) := ⟨⟨by decide +kernel, by decide +kernel⟩, List.mem_of_getElem? (i := 23) (by decide +kernel), List.mem_of_getElem? (i := 411) (by decide +kernel), List.mem_of_getElem? (i := 412) (by decide +kernel)⟩
theorem lw_p10 : lw_okq (⟨"java/lang/Throwable", "fillInStackTrace", "(I)Ljava/lang/Throwable;"⟩, 6) := ⟨⟨by decide +kernel, by decide +kernel⟩, List.mem_of_getElem? (i := 475) (by decide +kernel), List.mem_of_getElem? (i := 473) (by decide +kernel), List.mem_of_getElem? (i := 474) (by decide +kernel)⟩
theorem lw_p11 : lw_okq (⟨"LogDisk", "writeVote", "()V"⟩, 12) := ⟨⟨by decide +kernel, by decide +kernel⟩, List.mem_of_getElem? (i := 23) (by decide +kernel), List.mem_of_getElem? (i := 560) (by decide +kernel), List.mem_of_getElem? (i := 561) (by decide +kernel)⟩
theorem lw_p12 : lw_okq (⟨"LogDisk", "termAt", "(I)I"⟩, 12) := ⟨⟨by decide +kernel, by decide +kernel⟩, List.mem_of_getElem? (i := 23) (by decide +kernel), List.mem_of_getElem? (i := 612) (by decide +kernel), List.mem_of_getElem? (i := 613) (by decide +kernel)⟩
theorem lw_p13 : lw_okq (⟨"LogDisk", "isInLog", "(I)Z"⟩, 12) := ⟨⟨by decide +kernel, by decide +kernel⟩, List.mem_of_getElem? (i := 23) (by decide +kernel), List.mem_of_getElem? (i := 616) (by decide +kernel), List.mem_of_getElem? (i := 617) (by decide +kernel)⟩
theorem lw_p14 : lw_okq (⟨"LogDisk", "needsNewSegment", "()Z"⟩, 12) := ⟨⟨by decide +kernel, by decide +kernel⟩, List.mem_of_getElem? (i := 23) (by decide +kernel), List.mem_of_getElem? (i := 623) (by decide +kernel), List.mem_of_getElem? (i := 624) (by decide +kernel)⟩
theorem lw_p15 : lw_okq (⟨"LogDisk", "lowestFreeFile", "()I"⟩, 12) := ⟨⟨by decide +kernel, by decide +kernel⟩, List.mem_of_getElem? (i := 23) (by decide +kernel), List.mem_of_getElem? (i := 631) (by decide +kernel), List.mem_of_getElem? (i := 632) (by decide +kernel)⟩
def lw_privs_1 : List (MethodName × Nat) := [(⟨"LogDisk", "syncFiles", "()V"⟩, 12), (⟨"LogDisk", "crashFiles", "(J)V"⟩, 12), (⟨"LogDisk", "findVote", "()V"⟩, 12), (⟨"LogDisk", "findSnapshot", "()V"⟩, 12), (⟨"LogDisk", "findLog", "()V"⟩, 12), (⟨"LogDisk", "firstSegment", "()I"⟩, 12), (⟨"LogDisk", "readSegment", "(I)I"⟩, 12), (⟨"LogDisk", "holdsBase", "(II)Z"⟩, 12), (⟨"LogDisk", "followSegments", "(II)V"⟩, 12), (⟨"LogDisk", "segmentBehind", "(II)I"⟩, 12), (⟨"java/lang/Throwable", "fillInStackTrace", "(I)Ljava/lang/Throwable;"⟩, 6), (⟨"LogDisk", "writeVote", "()V"⟩, 12), (⟨"LogDisk", "termAt", "(I)I"⟩, 12), (⟨"LogDisk", "isInLog", "(I)Z"⟩, 12), (⟨"LogDisk", "needsNewSegment", "()Z"⟩, 12), (⟨"LogDisk", "lowestFreeFile", "()I"⟩, 12)]
theorem lw_r1 : ∀ q ∈ lw_privs_1, lw_okq q := List.forall_mem_cons.mpr ⟨lw_p0, List.forall_mem_cons.mpr ⟨lw_p1, List.forall_mem_cons.mpr ⟨lw_p2, List.forall_mem_cons.mpr ⟨lw_p3, List.forall_mem_cons.mpr ⟨lw_p4, List.forall_mem_cons.mpr ⟨lw_p5, List.forall_mem_cons.mpr ⟨lw_p6, List.forall_mem_cons.mpr ⟨lw_p7, List.forall_mem_cons.mpr ⟨lw_p8, List.forall_mem_cons.mpr ⟨lw_p9, List.forall_mem_cons.mpr ⟨lw_p10, List.forall_mem_cons.mpr ⟨lw_p11, List.forall_mem_cons.mpr ⟨lw_p12, List.forall_mem_cons.mpr ⟨lw_p13, List.forall_mem_cons.mpr ⟨lw_p14, List.forall_mem_cons.mpr ⟨lw_p15, fun _ h => absurd h List.not_mem_nil⟩⟩⟩⟩⟩⟩⟩⟩⟩⟩⟩⟩⟩⟩⟩⟩
theorem lw_p16 : lw_okq (⟨"LogDisk", "openSegment", "(I)V"⟩, 12) := ⟨⟨by decide +kernel, by decide +kernel⟩, List.mem_of_getElem? (i := 23) (by decide +kernel), List.mem_of_getElem? (i := 639) (by decide +kernel), List.mem_of_getElem? (i := 640) (by decide +kernel)⟩
theorem lw_p17 : lw_okq (⟨"LogDisk", "writeEntry", "(IIII)V"⟩, 12) := ⟨⟨by decide +kernel, by decide +kernel⟩, List.mem_of_getElem? (i := 23) (by decide +kernel), List.mem_of_getElem? (i := 643) (by decide +kernel), List.mem_of_getElem? (i := 644) (by decide +kernel)⟩
theorem lw_p18 : lw_okq (⟨"LogDisk", "moveBase", "(IIII)V"⟩, 12) := ⟨⟨by decide +kernel, by decide +kernel⟩, List.mem_of_getElem? (i := 23) (by decide +kernel), List.mem_of_getElem? (i := 687) (by decide +kernel), List.mem_of_getElem? (i := 688) (by decide +kernel)⟩
theorem lw_p19 : lw_okq (⟨"LogDisk", "dropSegments", "()V"⟩, 12) := ⟨⟨by decide +kernel, by decide +kernel⟩, List.mem_of_getElem? (i := 23) (by decide +kernel), List.mem_of_getElem? (i := 691) (by decide +kernel), List.mem_of_getElem? (i := 692) (by decide +kernel)⟩
theorem lw_p20 : lw_okq (⟨"LogDisk", "snapshotBytes", "()I"⟩, 12) := ⟨⟨by decide +kernel, by decide +kernel⟩, List.mem_of_getElem? (i := 23) (by decide +kernel), List.mem_of_getElem? (i := 731) (by decide +kernel), List.mem_of_getElem? (i := 732) (by decide +kernel)⟩
theorem lw_p21 : lw_okq (⟨"LogDiskModel", "fail", "(I)I"⟩, 35) := ⟨⟨by decide +kernel, by decide +kernel⟩, List.mem_of_getElem? (i := 802) (by decide +kernel), List.mem_of_getElem? (i := 926) (by decide +kernel), List.mem_of_getElem? (i := 927) (by decide +kernel)⟩
theorem lw_p22 : lw_okq (⟨"LogDiskModel", "hasRoomAnew", "(II)Z"⟩, 35) := ⟨⟨by decide +kernel, by decide +kernel⟩, List.mem_of_getElem? (i := 802) (by decide +kernel), List.mem_of_getElem? (i := 939) (by decide +kernel), List.mem_of_getElem? (i := 940) (by decide +kernel)⟩
theorem lw_p23 : lw_okq (⟨"LogDiskModel", "pagesUsed", "()I"⟩, 35) := ⟨⟨by decide +kernel, by decide +kernel⟩, List.mem_of_getElem? (i := 802) (by decide +kernel), List.mem_of_getElem? (i := 943) (by decide +kernel), List.mem_of_getElem? (i := 944) (by decide +kernel)⟩
theorem lw_p24 : lw_okq (⟨"LogDiskModel", "cut", "(II)V"⟩, 35) := ⟨⟨by decide +kernel, by decide +kernel⟩, List.mem_of_getElem? (i := 802) (by decide +kernel), List.mem_of_getElem? (i := 950) (by decide +kernel), List.mem_of_getElem? (i := 951) (by decide +kernel)⟩
theorem lw_p25 : lw_okq (⟨"LogDiskModel", "space", "(I)I"⟩, 35) := ⟨⟨by decide +kernel, by decide +kernel⟩, List.mem_of_getElem? (i := 802) (by decide +kernel), List.mem_of_getElem? (i := 954) (by decide +kernel), List.mem_of_getElem? (i := 955) (by decide +kernel)⟩
theorem lw_p26 : lw_okq (⟨"LogDiskModel", "payload", "(I)I"⟩, 35) := ⟨⟨by decide +kernel, by decide +kernel⟩, List.mem_of_getElem? (i := 802) (by decide +kernel), List.mem_of_getElem? (i := 958) (by decide +kernel), List.mem_of_getElem? (i := 959) (by decide +kernel)⟩
theorem lw_p27 : lw_okq (⟨"LogDiskModel", "make", "(IIII)I"⟩, 35) := ⟨⟨by decide +kernel, by decide +kernel⟩, List.mem_of_getElem? (i := 802) (by decide +kernel), List.mem_of_getElem? (i := 962) (by decide +kernel), List.mem_of_getElem? (i := 963) (by decide +kernel)⟩
theorem lw_p28 : lw_okq (⟨"LogDiskModel", "put", "(II)V"⟩, 35) := ⟨⟨by decide +kernel, by decide +kernel⟩, List.mem_of_getElem? (i := 802) (by decide +kernel), List.mem_of_getElem? (i := 966) (by decide +kernel), List.mem_of_getElem? (i := 967) (by decide +kernel)⟩
theorem lw_p29 : lw_okq (⟨"LogDiskModel", "termOf", "(I)I"⟩, 35) := ⟨⟨by decide +kernel, by decide +kernel⟩, List.mem_of_getElem? (i := 802) (by decide +kernel), List.mem_of_getElem? (i := 974) (by decide +kernel), List.mem_of_getElem? (i := 975) (by decide +kernel)⟩
theorem lw_p30 : lw_okq (⟨"LogDiskModel", "freeFile", "()I"⟩, 35) := ⟨⟨by decide +kernel, by decide +kernel⟩, List.mem_of_getElem? (i := 802) (by decide +kernel), List.mem_of_getElem? (i := 978) (by decide +kernel), List.mem_of_getElem? (i := 979) (by decide +kernel)⟩
theorem lw_p31 : lw_okq (⟨"LogDiskModel", "hasRoom", "(II)Z"⟩, 35) := ⟨⟨by decide +kernel, by decide +kernel⟩, List.mem_of_getElem? (i := 802) (by decide +kernel), List.mem_of_getElem? (i := 982) (by decide +kernel), List.mem_of_getElem? (i := 983) (by decide +kernel)⟩
def lw_privs_2 : List (MethodName × Nat) := [(⟨"LogDisk", "openSegment", "(I)V"⟩, 12), (⟨"LogDisk", "writeEntry", "(IIII)V"⟩, 12), (⟨"LogDisk", "moveBase", "(IIII)V"⟩, 12), (⟨"LogDisk", "dropSegments", "()V"⟩, 12), (⟨"LogDisk", "snapshotBytes", "()I"⟩, 12), (⟨"LogDiskModel", "fail", "(I)I"⟩, 35), (⟨"LogDiskModel", "hasRoomAnew", "(II)Z"⟩, 35), (⟨"LogDiskModel", "pagesUsed", "()I"⟩, 35), (⟨"LogDiskModel", "cut", "(II)V"⟩, 35), (⟨"LogDiskModel", "space", "(I)I"⟩, 35), (⟨"LogDiskModel", "payload", "(I)I"⟩, 35), (⟨"LogDiskModel", "make", "(IIII)I"⟩, 35), (⟨"LogDiskModel", "put", "(II)V"⟩, 35), (⟨"LogDiskModel", "termOf", "(I)I"⟩, 35), (⟨"LogDiskModel", "freeFile", "()I"⟩, 35), (⟨"LogDiskModel", "hasRoom", "(II)Z"⟩, 35)]
theorem lw_r2 : ∀ q ∈ lw_privs_2, lw_okq q := List.forall_mem_cons.mpr ⟨lw_p16, List.forall_mem_cons.mpr ⟨lw_p17, List.forall_mem_cons.mpr ⟨lw_p18, List.forall_mem_cons.mpr ⟨lw_p19, List.forall_mem_cons.mpr ⟨lw_p20, List.forall_mem_cons.mpr ⟨lw_p21, List.forall_mem_cons.mpr ⟨lw_p22, List.forall_mem_cons.mpr ⟨lw_p23, List.forall_mem_cons.mpr ⟨lw_p24, List.forall_mem_cons.mpr ⟨lw_p25, List.forall_mem_cons.mpr ⟨lw_p26, List.forall_mem_cons.mpr ⟨lw_p27, List.forall_mem_cons.mpr ⟨lw_p28, List.forall_mem_cons.mpr ⟨lw_p29, List.forall_mem_cons.mpr ⟨lw_p30, List.forall_mem_cons.mpr ⟨lw_p31, fun _ h => absurd h List.not_mem_nil⟩⟩⟩⟩⟩⟩⟩⟩⟩⟩⟩⟩⟩⟩⟩⟩
theorem lw_p32 : lw_okq (⟨"LogDiskModel", "needed", "(II)I"⟩, 35) := ⟨⟨by decide +kernel, by decide +kernel⟩, List.mem_of_getElem? (i := 802) (by decide +kernel), List.mem_of_getElem? (i := 986) (by decide +kernel), List.mem_of_getElem? (i := 987) (by decide +kernel)⟩
theorem lw_p33 : lw_okq (⟨"LogDiskModel", "fill", "(II)V"⟩, 35) := ⟨⟨by decide +kernel, by decide +kernel⟩, List.mem_of_getElem? (i := 802) (by decide +kernel), List.mem_of_getElem? (i := 990) (by decide +kernel), List.mem_of_getElem? (i := 991) (by decide +kernel)⟩
theorem lw_p34 : lw_okq (⟨"LogDiskModel", "firstOf", "(I)I"⟩, 35) := ⟨⟨by decide +kernel, by decide +kernel⟩, List.mem_of_getElem? (i := 802) (by decide +kernel), List.mem_of_getElem? (i := 998) (by decide +kernel), List.mem_of_getElem? (i := 999) (by decide +kernel)⟩
theorem lw_p35 : lw_okq (⟨"LogDiskModel", "remove", "(I)V"⟩, 35) := ⟨⟨by decide +kernel, by decide +kernel⟩, List.mem_of_getElem? (i := 802) (by decide +kernel), List.mem_of_getElem? (i := 1002) (by decide +kernel), List.mem_of_getElem? (i := 1003) (by decide +kernel)⟩
theorem lw_p36 : lw_okq (⟨"LogDiskModel", "placeIn", "(II)I"⟩, 35) := ⟨⟨by decide +kernel, by decide +kernel⟩, List.mem_of_getElem? (i := 802) (by decide +kernel), List.mem_of_getElem? (i := 1006) (by decide +kernel), List.mem_of_getElem? (i := 1007) (by decide +kernel)⟩
theorem lw_p37 : lw_okq (⟨"LogDiskModel", "write", "(IIII)Z"⟩, 35) := ⟨⟨by decide +kernel, by decide +kernel⟩, List.mem_of_getElem? (i := 802) (by decide +kernel), List.mem_of_getElem? (i := 1014) (by decide +kernel), List.mem_of_getElem? (i := 1015) (by decide +kernel)⟩
theorem lw_p38 : lw_okq (⟨"LogDiskModel", "settle", "(I)V"⟩, 35) := ⟨⟨by decide +kernel, by decide +kernel⟩, List.mem_of_getElem? (i := 802) (by decide +kernel), List.mem_of_getElem? (i := 1018) (by decide +kernel), List.mem_of_getElem? (i := 1019) (by decide +kernel)⟩
theorem lw_p39 : lw_okq (⟨"LogDiskModel", "copy", "(II)V"⟩, 35) := ⟨⟨by decide +kernel, by decide +kernel⟩, List.mem_of_getElem? (i := 802) (by decide +kernel), List.mem_of_getElem? (i := 1022) (by decide +kernel), List.mem_of_getElem? (i := 1023) (by decide +kernel)⟩
theorem lw_p40 : lw_okq (⟨"LogDiskModel", "rebase", "(II)V"⟩, 35) := ⟨⟨by decide +kernel, by decide +kernel⟩, List.mem_of_getElem? (i := 802) (by decide +kernel), List.mem_of_getElem? (i := 1026) (by decide +kernel), List.mem_of_getElem? (i := 1027) (by decide +kernel)⟩
theorem lw_p41 : lw_okq (⟨"LogDiskModel", "lastOf", "(I)I"⟩, 35) := ⟨⟨by decide +kernel, by decide +kernel⟩, List.mem_of_getElem? (i := 802) (by decide +kernel), List.mem_of_getElem? (i := 1030) (by decide +kernel), List.mem_of_getElem? (i := 1031) (by decide +kernel)⟩
theorem lw_p42 : lw_okq (⟨"LogDiskModel", "crashFile", "(II)V"⟩, 35) := ⟨⟨by decide +kernel, by decide +kernel⟩, List.mem_of_getElem? (i := 802) (by decide +kernel), List.mem_of_getElem? (i := 1054) (by decide +kernel), List.mem_of_getElem? (i := 1055) (by decide +kernel)⟩
theorem lw_p43 : lw_okq (⟨"LogDiskModel", "findSlots", "()V"⟩, 35) := ⟨⟨by decide +kernel, by decide +kernel⟩, List.mem_of_getElem? (i := 802) (by decide +kernel), List.mem_of_getElem? (i := 1058) (by decide +kernel), List.mem_of_getElem? (i := 1059) (by decide +kernel)⟩
theorem lw_p44 : lw_okq (⟨"LogDiskModel", "whole", "(I)I"⟩, 35) := ⟨⟨by decide +kernel, by decide +kernel⟩, List.mem_of_getElem? (i := 802) (by decide +kernel), List.mem_of_getElem? (i := 1062) (by decide +kernel), List.mem_of_getElem? (i := 1063) (by decide +kernel)⟩
theorem lw_p45 : lw_okq (⟨"LogDiskModel", "findSnapshot", "()V"⟩, 35) := ⟨⟨by decide +kernel, by decide +kernel⟩, List.mem_of_getElem? (i := 802) (by decide +kernel), List.mem_of_getElem? (i := 1066) (by decide +kernel), List.mem_of_getElem? (i := 1067) (by decide +kernel)⟩
theorem lw_p46 : lw_okq (⟨"LogDiskModel", "firstSegment", "()I"⟩, 35) := ⟨⟨by decide +kernel, by decide +kernel⟩, List.mem_of_getElem? (i := 802) (by decide +kernel), List.mem_of_getElem? (i := 1070) (by decide +kernel), List.mem_of_getElem? (i := 1071) (by decide +kernel)⟩
theorem lw_p47 : lw_okq (⟨"LogDiskModel", "join", "(I)V"⟩, 35) := ⟨⟨by decide +kernel, by decide +kernel⟩, List.mem_of_getElem? (i := 802) (by decide +kernel), List.mem_of_getElem? (i := 1074) (by decide +kernel), List.mem_of_getElem? (i := 1075) (by decide +kernel)⟩
def lw_privs_3 : List (MethodName × Nat) := [(⟨"LogDiskModel", "needed", "(II)I"⟩, 35), (⟨"LogDiskModel", "fill", "(II)V"⟩, 35), (⟨"LogDiskModel", "firstOf", "(I)I"⟩, 35), (⟨"LogDiskModel", "remove", "(I)V"⟩, 35), (⟨"LogDiskModel", "placeIn", "(II)I"⟩, 35), (⟨"LogDiskModel", "write", "(IIII)Z"⟩, 35), (⟨"LogDiskModel", "settle", "(I)V"⟩, 35), (⟨"LogDiskModel", "copy", "(II)V"⟩, 35), (⟨"LogDiskModel", "rebase", "(II)V"⟩, 35), (⟨"LogDiskModel", "lastOf", "(I)I"⟩, 35), (⟨"LogDiskModel", "crashFile", "(II)V"⟩, 35), (⟨"LogDiskModel", "findSlots", "()V"⟩, 35), (⟨"LogDiskModel", "whole", "(I)I"⟩, 35), (⟨"LogDiskModel", "findSnapshot", "()V"⟩, 35), (⟨"LogDiskModel", "firstSegment", "()I"⟩, 35), (⟨"LogDiskModel", "join", "(I)V"⟩, 35)]
theorem lw_r3 : ∀ q ∈ lw_privs_3, lw_okq q := List.forall_mem_cons.mpr ⟨lw_p32, List.forall_mem_cons.mpr ⟨lw_p33, List.forall_mem_cons.mpr ⟨lw_p34, List.forall_mem_cons.mpr ⟨lw_p35, List.forall_mem_cons.mpr ⟨lw_p36, List.forall_mem_cons.mpr ⟨lw_p37, List.forall_mem_cons.mpr ⟨lw_p38, List.forall_mem_cons.mpr ⟨lw_p39, List.forall_mem_cons.mpr ⟨lw_p40, List.forall_mem_cons.mpr ⟨lw_p41, List.forall_mem_cons.mpr ⟨lw_p42, List.forall_mem_cons.mpr ⟨lw_p43, List.forall_mem_cons.mpr ⟨lw_p44, List.forall_mem_cons.mpr ⟨lw_p45, List.forall_mem_cons.mpr ⟨lw_p46, List.forall_mem_cons.mpr ⟨lw_p47, fun _ h => absurd h List.not_mem_nil⟩⟩⟩⟩⟩⟩⟩⟩⟩⟩⟩⟩⟩⟩⟩⟩
theorem lw_p48 : lw_okq (⟨"LogDiskModel", "nextSegment", "()I"⟩, 35) := ⟨⟨by decide +kernel, by decide +kernel⟩, List.mem_of_getElem? (i := 802) (by decide +kernel), List.mem_of_getElem? (i := 1078) (by decide +kernel), List.mem_of_getElem? (i := 1079) (by decide +kernel)⟩
theorem lw_p49 : lw_okq (⟨"LogDiskModel", "isJoined", "(I)Z"⟩, 35) := ⟨⟨by decide +kernel, by decide +kernel⟩, List.mem_of_getElem? (i := 802) (by decide +kernel), List.mem_of_getElem? (i := 1082) (by decide +kernel), List.mem_of_getElem? (i := 1083) (by decide +kernel)⟩
theorem lw_p50 : lw_okq (⟨"LogDiskModel", "fileOf", "(I)I"⟩, 35) := ⟨⟨by decide +kernel, by decide +kernel⟩, List.mem_of_getElem? (i := 802) (by decide +kernel), List.mem_of_getElem? (i := 1094) (by decide +kernel), List.mem_of_getElem? (i := 1095) (by decide +kernel)⟩
theorem lw_p51 : lw_okq (⟨"LogDiskModel", "frameAt", "(II)I"⟩, 35) := ⟨⟨by decide +kernel, by decide +kernel⟩, List.mem_of_getElem? (i := 802) (by decide +kernel), List.mem_of_getElem? (i := 1118) (by decide +kernel), List.mem_of_getElem? (i := 1119) (by decide +kernel)⟩
theorem lw_p52 : lw_okq (⟨"LogDiskModel", "sumOf", "(I)I"⟩, 35) := ⟨⟨by decide +kernel, by decide +kernel⟩, List.mem_of_getElem? (i := 802) (by decide +kernel), List.mem_of_getElem? (i := 1122) (by decide +kernel), List.mem_of_getElem? (i := 1123) (by decide +kernel)⟩
theorem lw_p53 : lw_okq (⟨"LogDiskModel", "payloadAt", "(II)I"⟩, 35) := ⟨⟨by decide +kernel, by decide +kernel⟩, List.mem_of_getElem? (i := 802) (by decide +kernel), List.mem_of_getElem? (i := 1126) (by decide +kernel), List.mem_of_getElem? (i := 1127) (by decide +kernel)⟩
def lw_privs_4 : List (MethodName × Nat) := [(⟨"LogDiskModel", "nextSegment", "()I"⟩, 35), (⟨"LogDiskModel", "isJoined", "(I)Z"⟩, 35), (⟨"LogDiskModel", "fileOf", "(I)I"⟩, 35), (⟨"LogDiskModel", "frameAt", "(II)I"⟩, 35), (⟨"LogDiskModel", "sumOf", "(I)I"⟩, 35), (⟨"LogDiskModel", "payloadAt", "(II)I"⟩, 35)]
theorem lw_r4 : ∀ q ∈ lw_privs_4, lw_okq q := List.forall_mem_cons.mpr ⟨lw_p48, List.forall_mem_cons.mpr ⟨lw_p49, List.forall_mem_cons.mpr ⟨lw_p50, List.forall_mem_cons.mpr ⟨lw_p51, List.forall_mem_cons.mpr ⟨lw_p52, List.forall_mem_cons.mpr ⟨lw_p53, fun _ h => absurd h List.not_mem_nil⟩⟩⟩⟩⟩⟩
def lw_privs : List (MethodName × Nat) := lw_privs_1 ++ (lw_privs_2 ++ (lw_privs_3 ++ (lw_privs_4)))
def lw_tbl : List Cond := k2_sels lw_privs ++ tables_1
theorem lw_privs_ok : ∀ q ∈ lw_privs, lw_okq q := by
  show ∀ q ∈ lw_privs_1 ++ (lw_privs_2 ++ (lw_privs_3 ++ (lw_privs_4))), lw_okq q
  exact List.forall_mem_append.mpr ⟨lw_r1, List.forall_mem_append.mpr ⟨lw_r2, List.forall_mem_append.mpr ⟨lw_r3, lw_r4⟩⟩⟩
end
section
/-! The tables' words that calls keep, each by its place. -/
def gTb : List Cond := lw_tbl.filter goodWord
theorem gTb_in {w : Cond} (i : Nat) (h : lw_tbl[i]? = some w) (g : goodWord w = true) : w ∈ gTb := List.mem_filter.mpr ⟨List.mem_of_getElem? h, g⟩
theorem gTb_good {x : Cond} {ws : List Cond} (h : ∀ w ∈ ws, w ∈ gTb) : GoodIn (x :: gTb) ws := fun w hw => ⟨List.mem_cons_of_mem _ (h w hw), good_of_word (List.mem_filter.mp (h w hw)).2⟩
theorem gT_1 {w : Cond} (i : Nat) (h : tables_1_1[i]? = some w) (g : goodWord w = true) : w ∈ gTb := List.mem_filter.mpr ⟨List.mem_append_right _ (List.mem_append_left _ (List.mem_of_getElem? h)), g⟩
theorem gT_2 {w : Cond} (i : Nat) (h : tables_1_2[i]? = some w) (g : goodWord w = true) : w ∈ gTb := List.mem_filter.mpr ⟨List.mem_append_right _ (List.mem_append_right _ (List.mem_append_left _ (List.mem_of_getElem? h))), g⟩
theorem gT_3 {w : Cond} (i : Nat) (h : tables_1_3[i]? = some w) (g : goodWord w = true) : w ∈ gTb := List.mem_filter.mpr ⟨List.mem_append_right _ (List.mem_append_right _ (List.mem_append_right _ (List.mem_append_left _ (List.mem_of_getElem? h)))), g⟩
theorem gT_4 {w : Cond} (i : Nat) (h : tables_1_4[i]? = some w) (g : goodWord w = true) : w ∈ gTb := List.mem_filter.mpr ⟨List.mem_append_right _ (List.mem_append_right _ (List.mem_append_right _ (List.mem_append_right _ (List.mem_append_left _ (List.mem_of_getElem? h))))), g⟩
theorem gT_5 {w : Cond} (i : Nat) (h : tables_1_5[i]? = some w) (g : goodWord w = true) : w ∈ gTb := List.mem_filter.mpr ⟨List.mem_append_right _ (List.mem_append_right _ (List.mem_append_right _ (List.mem_append_right _ (List.mem_append_right _ ((List.mem_of_getElem? h)))))), g⟩
theorem gs_0 : Cond.selects "LogDisk" ⟨"LogDisk", "syncFiles", "()V"⟩ ⟨"LogDisk", "syncFiles", "()V"⟩ ∈ gTb := gTb_in 0 rfl rfl
theorem gs_1 : Cond.selects "LogDisk" ⟨"LogDisk", "crashFiles", "(J)V"⟩ ⟨"LogDisk", "crashFiles", "(J)V"⟩ ∈ gTb := gTb_in 1 rfl rfl
theorem gs_2 : Cond.selects "LogDisk" ⟨"LogDisk", "findVote", "()V"⟩ ⟨"LogDisk", "findVote", "()V"⟩ ∈ gTb := gTb_in 2 rfl rfl
theorem gs_3 : Cond.selects "LogDisk" ⟨"LogDisk", "findSnapshot", "()V"⟩ ⟨"LogDisk", "findSnapshot", "()V"⟩ ∈ gTb := gTb_in 3 rfl rfl
theorem gs_4 : Cond.selects "LogDisk" ⟨"LogDisk", "findLog", "()V"⟩ ⟨"LogDisk", "findLog", "()V"⟩ ∈ gTb := gTb_in 4 rfl rfl
theorem gs_5 : Cond.selects "LogDisk" ⟨"LogDisk", "firstSegment", "()I"⟩ ⟨"LogDisk", "firstSegment", "()I"⟩ ∈ gTb := gTb_in 5 rfl rfl
theorem gs_6 : Cond.selects "LogDisk" ⟨"LogDisk", "readSegment", "(I)I"⟩ ⟨"LogDisk", "readSegment", "(I)I"⟩ ∈ gTb := gTb_in 6 rfl rfl
theorem gs_7 : Cond.selects "LogDisk" ⟨"LogDisk", "holdsBase", "(II)Z"⟩ ⟨"LogDisk", "holdsBase", "(II)Z"⟩ ∈ gTb := gTb_in 7 rfl rfl
theorem gs_8 : Cond.selects "LogDisk" ⟨"LogDisk", "followSegments", "(II)V"⟩ ⟨"LogDisk", "followSegments", "(II)V"⟩ ∈ gTb := gTb_in 8 rfl rfl
theorem gs_9 : Cond.selects "LogDisk" ⟨"LogDisk", "segmentBehind", "(II)I"⟩ ⟨"LogDisk", "segmentBehind", "(II)I"⟩ ∈ gTb := gTb_in 9 rfl rfl
theorem gs_10 : Cond.selects "java/lang/Throwable" ⟨"java/lang/Throwable", "fillInStackTrace", "(I)Ljava/lang/Throwable;"⟩ ⟨"java/lang/Throwable", "fillInStackTrace", "(I)Ljava/lang/Throwable;"⟩ ∈ gTb := gTb_in 10 rfl rfl
theorem gs_11 : Cond.selects "LogDisk" ⟨"LogDisk", "writeVote", "()V"⟩ ⟨"LogDisk", "writeVote", "()V"⟩ ∈ gTb := gTb_in 11 rfl rfl
theorem gs_12 : Cond.selects "LogDisk" ⟨"LogDisk", "termAt", "(I)I"⟩ ⟨"LogDisk", "termAt", "(I)I"⟩ ∈ gTb := gTb_in 12 rfl rfl
theorem gs_13 : Cond.selects "LogDisk" ⟨"LogDisk", "isInLog", "(I)Z"⟩ ⟨"LogDisk", "isInLog", "(I)Z"⟩ ∈ gTb := gTb_in 13 rfl rfl
theorem gs_14 : Cond.selects "LogDisk" ⟨"LogDisk", "needsNewSegment", "()Z"⟩ ⟨"LogDisk", "needsNewSegment", "()Z"⟩ ∈ gTb := gTb_in 14 rfl rfl
theorem gs_15 : Cond.selects "LogDisk" ⟨"LogDisk", "lowestFreeFile", "()I"⟩ ⟨"LogDisk", "lowestFreeFile", "()I"⟩ ∈ gTb := gTb_in 15 rfl rfl
theorem gs_16 : Cond.selects "LogDisk" ⟨"LogDisk", "openSegment", "(I)V"⟩ ⟨"LogDisk", "openSegment", "(I)V"⟩ ∈ gTb := gTb_in 16 rfl rfl
theorem gs_17 : Cond.selects "LogDisk" ⟨"LogDisk", "writeEntry", "(IIII)V"⟩ ⟨"LogDisk", "writeEntry", "(IIII)V"⟩ ∈ gTb := gTb_in 17 rfl rfl
theorem gs_18 : Cond.selects "LogDisk" ⟨"LogDisk", "moveBase", "(IIII)V"⟩ ⟨"LogDisk", "moveBase", "(IIII)V"⟩ ∈ gTb := gTb_in 18 rfl rfl
theorem gs_19 : Cond.selects "LogDisk" ⟨"LogDisk", "dropSegments", "()V"⟩ ⟨"LogDisk", "dropSegments", "()V"⟩ ∈ gTb := gTb_in 19 rfl rfl
theorem gs_20 : Cond.selects "LogDisk" ⟨"LogDisk", "snapshotBytes", "()I"⟩ ⟨"LogDisk", "snapshotBytes", "()I"⟩ ∈ gTb := gTb_in 20 rfl rfl
theorem gs_21 : Cond.selects "LogDiskModel" ⟨"LogDiskModel", "fail", "(I)I"⟩ ⟨"LogDiskModel", "fail", "(I)I"⟩ ∈ gTb := gTb_in 21 rfl rfl
theorem gs_22 : Cond.selects "LogDiskModel" ⟨"LogDiskModel", "hasRoomAnew", "(II)Z"⟩ ⟨"LogDiskModel", "hasRoomAnew", "(II)Z"⟩ ∈ gTb := gTb_in 22 rfl rfl
theorem gs_23 : Cond.selects "LogDiskModel" ⟨"LogDiskModel", "pagesUsed", "()I"⟩ ⟨"LogDiskModel", "pagesUsed", "()I"⟩ ∈ gTb := gTb_in 23 rfl rfl
theorem gs_24 : Cond.selects "LogDiskModel" ⟨"LogDiskModel", "cut", "(II)V"⟩ ⟨"LogDiskModel", "cut", "(II)V"⟩ ∈ gTb := gTb_in 24 rfl rfl
theorem gs_25 : Cond.selects "LogDiskModel" ⟨"LogDiskModel", "space", "(I)I"⟩ ⟨"LogDiskModel", "space", "(I)I"⟩ ∈ gTb := gTb_in 25 rfl rfl
theorem gs_26 : Cond.selects "LogDiskModel" ⟨"LogDiskModel", "payload", "(I)I"⟩ ⟨"LogDiskModel", "payload", "(I)I"⟩ ∈ gTb := gTb_in 26 rfl rfl
theorem gs_27 : Cond.selects "LogDiskModel" ⟨"LogDiskModel", "make", "(IIII)I"⟩ ⟨"LogDiskModel", "make", "(IIII)I"⟩ ∈ gTb := gTb_in 27 rfl rfl
theorem gs_28 : Cond.selects "LogDiskModel" ⟨"LogDiskModel", "put", "(II)V"⟩ ⟨"LogDiskModel", "put", "(II)V"⟩ ∈ gTb := gTb_in 28 rfl rfl
theorem gs_29 : Cond.selects "LogDiskModel" ⟨"LogDiskModel", "termOf", "(I)I"⟩ ⟨"LogDiskModel", "termOf", "(I)I"⟩ ∈ gTb := gTb_in 29 rfl rfl
theorem gs_30 : Cond.selects "LogDiskModel" ⟨"LogDiskModel", "freeFile", "()I"⟩ ⟨"LogDiskModel", "freeFile", "()I"⟩ ∈ gTb := gTb_in 30 rfl rfl
theorem gs_31 : Cond.selects "LogDiskModel" ⟨"LogDiskModel", "hasRoom", "(II)Z"⟩ ⟨"LogDiskModel", "hasRoom", "(II)Z"⟩ ∈ gTb := gTb_in 31 rfl rfl
theorem gs_32 : Cond.selects "LogDiskModel" ⟨"LogDiskModel", "needed", "(II)I"⟩ ⟨"LogDiskModel", "needed", "(II)I"⟩ ∈ gTb := gTb_in 32 rfl rfl
theorem gs_33 : Cond.selects "LogDiskModel" ⟨"LogDiskModel", "fill", "(II)V"⟩ ⟨"LogDiskModel", "fill", "(II)V"⟩ ∈ gTb := gTb_in 33 rfl rfl
theorem gs_34 : Cond.selects "LogDiskModel" ⟨"LogDiskModel", "firstOf", "(I)I"⟩ ⟨"LogDiskModel", "firstOf", "(I)I"⟩ ∈ gTb := gTb_in 34 rfl rfl
theorem gs_35 : Cond.selects "LogDiskModel" ⟨"LogDiskModel", "remove", "(I)V"⟩ ⟨"LogDiskModel", "remove", "(I)V"⟩ ∈ gTb := gTb_in 35 rfl rfl
theorem gs_36 : Cond.selects "LogDiskModel" ⟨"LogDiskModel", "placeIn", "(II)I"⟩ ⟨"LogDiskModel", "placeIn", "(II)I"⟩ ∈ gTb := gTb_in 36 rfl rfl
theorem gs_37 : Cond.selects "LogDiskModel" ⟨"LogDiskModel", "write", "(IIII)Z"⟩ ⟨"LogDiskModel", "write", "(IIII)Z"⟩ ∈ gTb := gTb_in 37 rfl rfl
theorem gs_38 : Cond.selects "LogDiskModel" ⟨"LogDiskModel", "settle", "(I)V"⟩ ⟨"LogDiskModel", "settle", "(I)V"⟩ ∈ gTb := gTb_in 38 rfl rfl
theorem gs_39 : Cond.selects "LogDiskModel" ⟨"LogDiskModel", "copy", "(II)V"⟩ ⟨"LogDiskModel", "copy", "(II)V"⟩ ∈ gTb := gTb_in 39 rfl rfl
theorem gs_40 : Cond.selects "LogDiskModel" ⟨"LogDiskModel", "rebase", "(II)V"⟩ ⟨"LogDiskModel", "rebase", "(II)V"⟩ ∈ gTb := gTb_in 40 rfl rfl
theorem gs_41 : Cond.selects "LogDiskModel" ⟨"LogDiskModel", "lastOf", "(I)I"⟩ ⟨"LogDiskModel", "lastOf", "(I)I"⟩ ∈ gTb := gTb_in 41 rfl rfl
theorem gs_42 : Cond.selects "LogDiskModel" ⟨"LogDiskModel", "crashFile", "(II)V"⟩ ⟨"LogDiskModel", "crashFile", "(II)V"⟩ ∈ gTb := gTb_in 42 rfl rfl
theorem gs_43 : Cond.selects "LogDiskModel" ⟨"LogDiskModel", "findSlots", "()V"⟩ ⟨"LogDiskModel", "findSlots", "()V"⟩ ∈ gTb := gTb_in 43 rfl rfl
theorem gs_44 : Cond.selects "LogDiskModel" ⟨"LogDiskModel", "whole", "(I)I"⟩ ⟨"LogDiskModel", "whole", "(I)I"⟩ ∈ gTb := gTb_in 44 rfl rfl
theorem gs_45 : Cond.selects "LogDiskModel" ⟨"LogDiskModel", "findSnapshot", "()V"⟩ ⟨"LogDiskModel", "findSnapshot", "()V"⟩ ∈ gTb := gTb_in 45 rfl rfl
theorem gs_46 : Cond.selects "LogDiskModel" ⟨"LogDiskModel", "firstSegment", "()I"⟩ ⟨"LogDiskModel", "firstSegment", "()I"⟩ ∈ gTb := gTb_in 46 rfl rfl
theorem gs_47 : Cond.selects "LogDiskModel" ⟨"LogDiskModel", "join", "(I)V"⟩ ⟨"LogDiskModel", "join", "(I)V"⟩ ∈ gTb := gTb_in 47 rfl rfl
theorem gs_48 : Cond.selects "LogDiskModel" ⟨"LogDiskModel", "nextSegment", "()I"⟩ ⟨"LogDiskModel", "nextSegment", "()I"⟩ ∈ gTb := gTb_in 48 rfl rfl
theorem gs_49 : Cond.selects "LogDiskModel" ⟨"LogDiskModel", "isJoined", "(I)Z"⟩ ⟨"LogDiskModel", "isJoined", "(I)Z"⟩ ∈ gTb := gTb_in 49 rfl rfl
theorem gs_50 : Cond.selects "LogDiskModel" ⟨"LogDiskModel", "fileOf", "(I)I"⟩ ⟨"LogDiskModel", "fileOf", "(I)I"⟩ ∈ gTb := gTb_in 50 rfl rfl
theorem gs_51 : Cond.selects "LogDiskModel" ⟨"LogDiskModel", "frameAt", "(II)I"⟩ ⟨"LogDiskModel", "frameAt", "(II)I"⟩ ∈ gTb := gTb_in 51 rfl rfl
theorem gs_52 : Cond.selects "LogDiskModel" ⟨"LogDiskModel", "sumOf", "(I)I"⟩ ⟨"LogDiskModel", "sumOf", "(I)I"⟩ ∈ gTb := gTb_in 52 rfl rfl
theorem gs_53 : Cond.selects "LogDiskModel" ⟨"LogDiskModel", "payloadAt", "(II)I"⟩ ⟨"LogDiskModel", "payloadAt", "(II)I"⟩ ∈ gTb := gTb_in 53 rfl rfl
theorem gw_0 : (Jvm.Cond.initialized "LogDiskLaw") ∈ gTb := gT_1 0 rfl rfl
theorem gw_1 : (Jvm.Cond.initialized "LogDisk") ∈ gTb := gT_1 1 rfl rfl
theorem gw_2 : (Jvm.Cond.initialized "LogDisk$Tape") ∈ gTb := gT_1 2 rfl rfl
theorem gw_3 : (Jvm.Cond.initialized "LogDisk$Frame") ∈ gTb := gT_1 3 rfl rfl
theorem gw_4 : (Jvm.Cond.initialized "LogDisk$Vote") ∈ gTb := gT_1 4 rfl rfl
theorem gw_5 : (Jvm.Cond.initialized "LogDisk$Snapshot") ∈ gTb := gT_1 5 rfl rfl
theorem gw_6 : (Jvm.Cond.initialized "LogDisk$Segments") ∈ gTb := gT_1 6 rfl rfl
theorem gw_7 : (Jvm.Cond.initialized "LogDisk$Entries") ∈ gTb := gT_1 7 rfl rfl
theorem gw_8 : (Jvm.Cond.initialized "java/lang/Math") ∈ gTb := gT_1 8 rfl rfl
theorem gw_9 : (Jvm.Cond.initialized "LogDisk$Pages") ∈ gTb := gT_1 9 rfl rfl
theorem gw_10 : (Jvm.Cond.initialized "LogDisk$DiskFile") ∈ gTb := gT_1 10 rfl rfl
theorem gw_11 : (Jvm.Cond.initialized "LogDisk$Content") ∈ gTb := gT_1 11 rfl rfl
theorem gw_12 : (Jvm.Cond.initialized "LogDiskModel") ∈ gTb := gT_1 12 rfl rfl
theorem gw_13 : (Jvm.Cond.initialized "java/lang/Throwable") ∈ gTb := gT_1 13 rfl rfl
theorem gw_14 : (Jvm.Cond.initialized "java/lang/Exception") ∈ gTb := gT_1 14 rfl rfl
theorem gw_15 : (Jvm.Cond.initialized "java/lang/RuntimeException") ∈ gTb := gT_1 15 rfl rfl
theorem gw_16 : (Jvm.Cond.initialized "java/lang/IllegalArgumentException") ∈ gTb := gT_1 16 rfl rfl
theorem gw_17 : (Jvm.Cond.initialized "java/lang/IllegalStateException") ∈ gTb := gT_1 17 rfl rfl
theorem gw_18 : (Jvm.Cond.initialized "java/lang/UnsupportedOperationException") ∈ gTb := gT_1 18 rfl rfl
theorem gw_19 : (Jvm.Cond.initialized "java/lang/System") ∈ gTb := gT_1 19 rfl rfl
theorem gw_20 : (Jvm.Cond.initialized "java/lang/IndexOutOfBoundsException") ∈ gTb := gT_1 20 rfl rfl
theorem gw_21 : (Jvm.Cond.initialized "java/util/NoSuchElementException") ∈ gTb := gT_1 21 rfl rfl
theorem gw_22 : (Jvm.Cond.classLink "LogDiskLaw" (8 : Nat) "LogDisk") ∈ gTb := gT_1 22 rfl rfl
theorem gw_23 : (Jvm.Cond.instantiable "LogDisk" (12 : Nat)) ∈ gTb := gT_1 23 rfl rfl
theorem gw_24 : (Jvm.Cond.methodLink "LogDiskLaw" (72 : Nat) ({ cls := "LogDisk", name := "<init>", desc := "(II)V" } : Jvm.MethodName)) ∈ gTb := gT_1 24 rfl rfl
theorem gw_25 : (Jvm.Cond.instanceMethod ({ cls := "LogDisk", name := "<init>", desc := "(II)V" } : Jvm.MethodName)) ∈ gTb := gT_1 25 rfl rfl
theorem gw_26 : (Jvm.Cond.code ({ cls := "LogDisk", name := "<init>", desc := "(II)V" } : Jvm.MethodName) prog_1_method_1_code (6 : Nat) (Option.none : Option Jvm.ClassFile.FieldType)) ∈ gTb := gT_1 26 rfl rfl
theorem gw_27 : (Jvm.Cond.methodLink "LogDisk" (3 : Nat) ({ cls := "java/lang/Object", name := "<init>", desc := "()V" } : Jvm.MethodName)) ∈ gTb := gT_1 27 rfl rfl
theorem gw_28 : (Jvm.Cond.instanceMethod ({ cls := "java/lang/Object", name := "<init>", desc := "()V" } : Jvm.MethodName)) ∈ gTb := gT_1 28 rfl rfl
theorem gw_29 : (Jvm.Cond.code ({ cls := "java/lang/Object", name := "<init>", desc := "()V" } : Jvm.MethodName) object_method_1_code (1 : Nat) (Option.none : Option Jvm.ClassFile.FieldType)) ∈ gTb := gT_1 29 rfl rfl
theorem gw_30 : (Jvm.Cond.classLink "LogDisk" (9 : Nat) "LogDisk$DiskFile") ∈ gTb := gT_1 30 rfl rfl
theorem gw_32 : (Jvm.Cond.classLink "LogDisk" (19 : Nat) "LogDisk$Tape") ∈ gTb := gT_1 32 rfl rfl
theorem gw_33 : (Jvm.Cond.instantiable "LogDisk$Tape" (2 : Nat)) ∈ gTb := gT_1 33 rfl rfl
theorem gw_35 : (Jvm.Cond.instanceMethod ({ cls := "LogDisk$Tape", name := "<init>", desc := "()V" } : Jvm.MethodName)) ∈ gTb := gT_1 35 rfl rfl
theorem gw_36 : (Jvm.Cond.code ({ cls := "LogDisk$Tape", name := "<init>", desc := "()V" } : Jvm.MethodName) prog_9_method_1_code (1 : Nat) (Option.none : Option Jvm.ClassFile.FieldType)) ∈ gTb := gT_1 36 rfl rfl
theorem gw_37 : (Jvm.Cond.methodLink "LogDisk$Tape" (3 : Nat) ({ cls := "java/lang/Object", name := "<init>", desc := "()V" } : Jvm.MethodName)) ∈ gTb := gT_1 37 rfl rfl
theorem gw_38 : (Jvm.Cond.fieldLink "LogDisk$Tape" (9 : Nat) "LogDisk$Tape" "bytes" "[B") ∈ gTb := gT_1 38 rfl rfl
theorem gw_39 : (Jvm.Cond.fieldLink "LogDisk" (104 : Nat) "LogDisk$Tape" "bytes" "[B") ∈ gTb := gT_1 39 rfl rfl
theorem gw_40 : (Jvm.Cond.fieldLink "LogDisk$Tape" (15 : Nat) "LogDisk$Tape" "size" "I") ∈ gTb := gT_1 40 rfl rfl
theorem gw_41 : (Jvm.Cond.fieldLink "LogDisk" (96 : Nat) "LogDisk$Tape" "size" "I") ∈ gTb := gT_1 41 rfl rfl
theorem gw_42 : (Jvm.Cond.laysFinal "LogDisk$Tape" "LogDisk$Tape" "bytes" "[B") ∈ gTb := gT_1 42 rfl rfl
theorem gw_44 : (Jvm.Cond.lays "LogDisk$Tape" "LogDisk$Tape" "size" "I") ∈ gTb := gT_1 44 rfl rfl
theorem gw_47 : (Jvm.Cond.arrayClass Jvm.ClassFile.FieldType.int) ∈ gTb := gT_1 47 rfl rfl
theorem gw_48 : (Jvm.Cond.arrayClass Jvm.ClassFile.FieldType.byte) ∈ gTb := gT_1 48 rfl rfl
theorem gw_49 : (Jvm.Cond.classLink "LogDisk" (26 : Nat) "LogDisk$Frame") ∈ gTb := gT_1 49 rfl rfl
theorem gw_50 : (Jvm.Cond.instantiable "LogDisk$Frame" (2 : Nat)) ∈ gTb := gT_1 50 rfl rfl
theorem gw_52 : (Jvm.Cond.instanceMethod ({ cls := "LogDisk$Frame", name := "<init>", desc := "()V" } : Jvm.MethodName)) ∈ gTb := gT_1 52 rfl rfl
theorem gw_53 : (Jvm.Cond.code ({ cls := "LogDisk$Frame", name := "<init>", desc := "()V" } : Jvm.MethodName) prog_5_method_1_code (1 : Nat) (Option.none : Option Jvm.ClassFile.FieldType)) ∈ gTb := gT_1 53 rfl rfl
theorem gw_54 : (Jvm.Cond.methodLink "LogDisk$Frame" (3 : Nat) ({ cls := "java/lang/Object", name := "<init>", desc := "()V" } : Jvm.MethodName)) ∈ gTb := gT_1 54 rfl rfl
theorem gw_55 : (Jvm.Cond.fieldLink "LogDisk$Frame" (9 : Nat) "LogDisk$Frame" "bytes" "[B") ∈ gTb := gT_1 55 rfl rfl
theorem gw_56 : (Jvm.Cond.fieldLink "LogDisk" (309 : Nat) "LogDisk$Frame" "bytes" "[B") ∈ gTb := gT_1 56 rfl rfl
theorem gw_57 : (Jvm.Cond.fieldLink "LogDisk$Frame" (15 : Nat) "LogDisk$Frame" "size" "I") ∈ gTb := gT_1 57 rfl rfl
theorem gw_58 : (Jvm.Cond.fieldLink "LogDisk" (310 : Nat) "LogDisk$Frame" "size" "I") ∈ gTb := gT_1 58 rfl rfl
theorem gw_59 : (Jvm.Cond.laysFinal "LogDisk$Frame" "LogDisk$Frame" "bytes" "[B") ∈ gTb := gT_1 59 rfl rfl
theorem gw_61 : (Jvm.Cond.lays "LogDisk$Frame" "LogDisk$Frame" "size" "I") ∈ gTb := gT_1 61 rfl rfl
theorem gw_64 : (Jvm.Cond.classLink "LogDisk" (33 : Nat) "LogDisk$Vote") ∈ gTb := gT_1 64 rfl rfl
theorem gw_65 : (Jvm.Cond.instantiable "LogDisk$Vote" (5 : Nat)) ∈ gTb := gT_1 65 rfl rfl
theorem gw_67 : (Jvm.Cond.instanceMethod ({ cls := "LogDisk$Vote", name := "<init>", desc := "()V" } : Jvm.MethodName)) ∈ gTb := gT_1 67 rfl rfl
theorem gw_68 : (Jvm.Cond.code ({ cls := "LogDisk$Vote", name := "<init>", desc := "()V" } : Jvm.MethodName) prog_10_method_1_code (1 : Nat) (Option.none : Option Jvm.ClassFile.FieldType)) ∈ gTb := gT_1 68 rfl rfl
theorem gw_69 : (Jvm.Cond.methodLink "LogDisk$Vote" (3 : Nat) ({ cls := "java/lang/Object", name := "<init>", desc := "()V" } : Jvm.MethodName)) ∈ gTb := gT_1 69 rfl rfl
theorem gw_70 : (Jvm.Cond.fieldLink "LogDisk$Vote" (22 : Nat) "LogDisk$Vote" "term" "I") ∈ gTb := gT_1 70 rfl rfl
theorem gw_71 : (Jvm.Cond.fieldLink "LogDisk" (108 : Nat) "LogDisk$Vote" "term" "I") ∈ gTb := gT_1 71 rfl rfl
theorem gw_72 : (Jvm.Cond.fieldLink "LogDisk$Vote" (9 : Nat) "LogDisk$Vote" "voted" "I") ∈ gTb := gT_1 72 rfl rfl
theorem gw_73 : (Jvm.Cond.fieldLink "LogDisk" (247 : Nat) "LogDisk$Vote" "voted" "I") ∈ gTb := gT_1 73 rfl rfl
theorem gw_74 : (Jvm.Cond.fieldLink "LogDisk$Vote" (18 : Nat) "LogDisk$Vote" "times" "J") ∈ gTb := gT_1 74 rfl rfl
theorem gw_75 : (Jvm.Cond.fieldLink "LogDisk" (129 : Nat) "LogDisk$Vote" "times" "J") ∈ gTb := gT_1 75 rfl rfl
theorem gw_76 : (Jvm.Cond.fieldLink "LogDisk$Vote" (15 : Nat) "LogDisk$Vote" "file" "I") ∈ gTb := gT_1 76 rfl rfl
theorem gw_77 : (Jvm.Cond.fieldLink "LogDisk" (308 : Nat) "LogDisk$Vote" "file" "I") ∈ gTb := gT_1 77 rfl rfl
theorem gw_78 : (Jvm.Cond.fieldLink "LogDisk$Vote" (29 : Nat) "LogDisk$Vote" "fresh" "Z") ∈ gTb := gT_1 78 rfl rfl
theorem gw_79 : (Jvm.Cond.fieldLink "LogDisk" (137 : Nat) "LogDisk$Vote" "fresh" "Z") ∈ gTb := gT_1 79 rfl rfl
theorem gw_80 : (Jvm.Cond.lays "LogDisk$Vote" "LogDisk$Vote" "term" "I") ∈ gTb := gT_1 80 rfl rfl
theorem gw_82 : (Jvm.Cond.lays "LogDisk$Vote" "LogDisk$Vote" "voted" "I") ∈ gTb := gT_1 82 rfl rfl
theorem gw_84 : (Jvm.Cond.lays "LogDisk$Vote" "LogDisk$Vote" "times" "J") ∈ gTb := gT_1 84 rfl rfl
theorem gw_86 : (Jvm.Cond.lays "LogDisk$Vote" "LogDisk$Vote" "file" "I") ∈ gTb := gT_1 86 rfl rfl
theorem gw_88 : (Jvm.Cond.lays "LogDisk$Vote" "LogDisk$Vote" "fresh" "Z") ∈ gTb := gT_1 88 rfl rfl
theorem gw_91 : (Jvm.Cond.classLink "LogDisk" (40 : Nat) "LogDisk$Snapshot") ∈ gTb := gT_1 91 rfl rfl
theorem gw_92 : (Jvm.Cond.instantiable "LogDisk$Snapshot" (4 : Nat)) ∈ gTb := gT_1 92 rfl rfl
theorem gw_94 : (Jvm.Cond.instanceMethod ({ cls := "LogDisk$Snapshot", name := "<init>", desc := "()V" } : Jvm.MethodName)) ∈ gTb := gT_1 94 rfl rfl
theorem gw_95 : (Jvm.Cond.code ({ cls := "LogDisk$Snapshot", name := "<init>", desc := "()V" } : Jvm.MethodName) prog_8_method_1_code (1 : Nat) (Option.none : Option Jvm.ClassFile.FieldType)) ∈ gTb := gT_1 95 rfl rfl
theorem gw_96 : (Jvm.Cond.methodLink "LogDisk$Snapshot" (3 : Nat) ({ cls := "java/lang/Object", name := "<init>", desc := "()V" } : Jvm.MethodName)) ∈ gTb := gT_1 96 rfl rfl
theorem gw_97 : (Jvm.Cond.fieldLink "LogDisk$Snapshot" (9 : Nat) "LogDisk$Snapshot" "file" "I") ∈ gTb := gT_1 97 rfl rfl
theorem gw_98 : (Jvm.Cond.fieldLink "LogDisk" (278 : Nat) "LogDisk$Snapshot" "file" "I") ∈ gTb := gT_1 98 rfl rfl
theorem gw_99 : (Jvm.Cond.fieldLink "LogDisk$Snapshot" (15 : Nat) "LogDisk$Snapshot" "base" "I") ∈ gTb := gT_1 99 rfl rfl
theorem gw_100 : (Jvm.Cond.fieldLink "LogDisk" (161 : Nat) "LogDisk$Snapshot" "base" "I") ∈ gTb := gT_1 100 rfl rfl
theorem gw_101 : (Jvm.Cond.fieldLink "LogDisk$Snapshot" (18 : Nat) "LogDisk$Snapshot" "term" "I") ∈ gTb := gT_1 101 rfl rfl
theorem gw_102 : (Jvm.Cond.fieldLink "LogDisk" (250 : Nat) "LogDisk$Snapshot" "term" "I") ∈ gTb := gT_1 102 rfl rfl
theorem gw_103 : (Jvm.Cond.fieldLink "LogDisk" (86 : Nat) "LogDisk$Snapshot" "code" "I") ∈ gTb := gT_1 103 rfl rfl
theorem gw_104 : (Jvm.Cond.fieldLink "LogDisk$Snapshot" (21 : Nat) "LogDisk$Snapshot" "code" "I") ∈ gTb := gT_1 104 rfl rfl
theorem gw_105 : (Jvm.Cond.lays "LogDisk$Snapshot" "LogDisk$Snapshot" "file" "I") ∈ gTb := gT_1 105 rfl rfl
theorem gw_107 : (Jvm.Cond.lays "LogDisk$Snapshot" "LogDisk$Snapshot" "base" "I") ∈ gTb := gT_1 107 rfl rfl
theorem gw_109 : (Jvm.Cond.lays "LogDisk$Snapshot" "LogDisk$Snapshot" "term" "I") ∈ gTb := gT_1 109 rfl rfl
theorem gw_111 : (Jvm.Cond.lays "LogDisk$Snapshot" "LogDisk$Snapshot" "code" "I") ∈ gTb := gT_1 111 rfl rfl
theorem gw_114 : (Jvm.Cond.classLink "LogDisk" (47 : Nat) "LogDisk$Segments") ∈ gTb := gT_1 114 rfl rfl
theorem gw_115 : (Jvm.Cond.instantiable "LogDisk$Segments" (3 : Nat)) ∈ gTb := gT_1 115 rfl rfl
theorem gw_117 : (Jvm.Cond.instanceMethod ({ cls := "LogDisk$Segments", name := "<init>", desc := "()V" } : Jvm.MethodName)) ∈ gTb := gT_1 117 rfl rfl
theorem gw_118 : (Jvm.Cond.code ({ cls := "LogDisk$Segments", name := "<init>", desc := "()V" } : Jvm.MethodName) prog_7_method_1_code (1 : Nat) (Option.none : Option Jvm.ClassFile.FieldType)) ∈ gTb := gT_1 118 rfl rfl
theorem gw_119 : (Jvm.Cond.methodLink "LogDisk$Segments" (3 : Nat) ({ cls := "java/lang/Object", name := "<init>", desc := "()V" } : Jvm.MethodName)) ∈ gTb := gT_1 119 rfl rfl
theorem gw_120 : (Jvm.Cond.fieldLink "LogDisk$Segments" (9 : Nat) "LogDisk$Segments" "file" "[I") ∈ gTb := gT_1 120 rfl rfl
theorem gw_121 : (Jvm.Cond.fieldLink "LogDisk" (200 : Nat) "LogDisk$Segments" "file" "[I") ∈ gTb := gT_1 121 rfl rfl
theorem gw_122 : (Jvm.Cond.fieldLink "LogDisk$Segments" (15 : Nat) "LogDisk$Segments" "first" "[I") ∈ gTb := gT_1 122 rfl rfl
theorem gw_123 : (Jvm.Cond.fieldLink "LogDisk" (197 : Nat) "LogDisk$Segments" "first" "[I") ∈ gTb := gT_1 123 rfl rfl
theorem gw_124 : (Jvm.Cond.fieldLink "LogDisk$Segments" (18 : Nat) "LogDisk$Segments" "count" "I") ∈ gTb := gT_1 124 rfl rfl
theorem gw_125 : (Jvm.Cond.fieldLink "LogDisk" (194 : Nat) "LogDisk$Segments" "count" "I") ∈ gTb := gT_1 125 rfl rfl
theorem gw_126 : (Jvm.Cond.laysFinal "LogDisk$Segments" "LogDisk$Segments" "file" "[I") ∈ gTb := gT_1 126 rfl rfl
theorem gw_128 : (Jvm.Cond.laysFinal "LogDisk$Segments" "LogDisk$Segments" "first" "[I") ∈ gTb := gT_1 128 rfl rfl
theorem gw_130 : (Jvm.Cond.lays "LogDisk$Segments" "LogDisk$Segments" "count" "I") ∈ gTb := gT_1 130 rfl rfl
theorem gw_133 : (Jvm.Cond.classLink "LogDisk" (54 : Nat) "LogDisk$Entries") ∈ gTb := gT_1 133 rfl rfl
theorem gw_134 : (Jvm.Cond.instantiable "LogDisk$Entries" (5 : Nat)) ∈ gTb := gT_1 134 rfl rfl
theorem gw_136 : (Jvm.Cond.instanceMethod ({ cls := "LogDisk$Entries", name := "<init>", desc := "()V" } : Jvm.MethodName)) ∈ gTb := gT_1 136 rfl rfl
theorem gw_137 : (Jvm.Cond.code ({ cls := "LogDisk$Entries", name := "<init>", desc := "()V" } : Jvm.MethodName) prog_4_method_1_code (1 : Nat) (Option.none : Option Jvm.ClassFile.FieldType)) ∈ gTb := gT_1 137 rfl rfl
theorem gw_138 : (Jvm.Cond.methodLink "LogDisk$Entries" (3 : Nat) ({ cls := "java/lang/Object", name := "<init>", desc := "()V" } : Jvm.MethodName)) ∈ gTb := gT_1 138 rfl rfl
theorem gw_139 : (Jvm.Cond.fieldLink "LogDisk$Entries" (11 : Nat) "LogDisk$Entries" "file" "[I") ∈ gTb := gT_1 139 rfl rfl
theorem gw_140 : (Jvm.Cond.fieldLink "LogDisk" (209 : Nat) "LogDisk$Entries" "file" "[I") ∈ gTb := gT_1 140 rfl rfl
theorem gw_141 : (Jvm.Cond.fieldLink "LogDisk$Entries" (15 : Nat) "LogDisk$Entries" "start" "[I") ∈ gTb := gT_1 141 rfl rfl
theorem gw_142 : (Jvm.Cond.fieldLink "LogDisk" (210 : Nat) "LogDisk$Entries" "start" "[I") ∈ gTb := gT_1 142 rfl rfl
theorem gw_143 : (Jvm.Cond.fieldLink "LogDisk$Entries" (18 : Nat) "LogDisk$Entries" "term" "[I") ∈ gTb := gT_1 143 rfl rfl
theorem gw_144 : (Jvm.Cond.fieldLink "LogDisk" (261 : Nat) "LogDisk$Entries" "term" "[I") ∈ gTb := gT_1 144 rfl rfl
theorem gw_145 : (Jvm.Cond.fieldLink "LogDisk$Entries" (21 : Nat) "LogDisk$Entries" "kind" "[I") ∈ gTb := gT_1 145 rfl rfl
theorem gw_146 : (Jvm.Cond.fieldLink "LogDisk" (263 : Nat) "LogDisk$Entries" "kind" "[I") ∈ gTb := gT_1 146 rfl rfl
theorem gw_147 : (Jvm.Cond.fieldLink "LogDisk$Entries" (24 : Nat) "LogDisk$Entries" "bytes" "[I") ∈ gTb := gT_1 147 rfl rfl
theorem gw_148 : (Jvm.Cond.fieldLink "LogDisk" (266 : Nat) "LogDisk$Entries" "bytes" "[I") ∈ gTb := gT_1 148 rfl rfl
theorem gw_149 : (Jvm.Cond.laysFinal "LogDisk$Entries" "LogDisk$Entries" "file" "[I") ∈ gTb := gT_1 149 rfl rfl
theorem gw_151 : (Jvm.Cond.laysFinal "LogDisk$Entries" "LogDisk$Entries" "start" "[I") ∈ gTb := gT_1 151 rfl rfl
theorem gw_153 : (Jvm.Cond.laysFinal "LogDisk$Entries" "LogDisk$Entries" "term" "[I") ∈ gTb := gT_1 153 rfl rfl
theorem gw_155 : (Jvm.Cond.laysFinal "LogDisk$Entries" "LogDisk$Entries" "kind" "[I") ∈ gTb := gT_1 155 rfl rfl
theorem gw_157 : (Jvm.Cond.laysFinal "LogDisk$Entries" "LogDisk$Entries" "bytes" "[I") ∈ gTb := gT_1 157 rfl rfl
theorem gw_160 : (Jvm.Cond.methodLink "LogDisk" (61 : Nat) ({ cls := "java/lang/Math", name := "min", desc := "(II)I" } : Jvm.MethodName)) ∈ gTb := gT_1 160 rfl rfl
theorem gw_161 : (Jvm.Cond.static ({ cls := "java/lang/Math", name := "min", desc := "(II)I" } : Jvm.MethodName)) ∈ gTb := gT_1 161 rfl rfl
theorem gw_162 : (Jvm.Cond.code ({ cls := "java/lang/Math", name := "min", desc := "(II)I" } : Jvm.MethodName) prog_17_method_69_code (2 : Nat) (Option.some Jvm.ClassFile.FieldType.int)) ∈ gTb := gT_1 162 rfl rfl
theorem gw_163 : (Jvm.Cond.methodLink "LogDisk" (67 : Nat) ({ cls := "java/lang/Math", name := "max", desc := "(II)I" } : Jvm.MethodName)) ∈ gTb := gT_1 163 rfl rfl
theorem gw_164 : (Jvm.Cond.static ({ cls := "java/lang/Math", name := "max", desc := "(II)I" } : Jvm.MethodName)) ∈ gTb := gT_1 164 rfl rfl
theorem gw_165 : (Jvm.Cond.code ({ cls := "java/lang/Math", name := "max", desc := "(II)I" } : Jvm.MethodName) prog_17_method_65_code (2 : Nat) (Option.some Jvm.ClassFile.FieldType.int)) ∈ gTb := gT_1 165 rfl rfl
theorem gw_166 : (Jvm.Cond.classLink "LogDisk" (70 : Nat) "LogDisk$Pages") ∈ gTb := gT_1 166 rfl rfl
theorem gw_167 : (Jvm.Cond.instantiable "LogDisk$Pages" (4 : Nat)) ∈ gTb := gT_1 167 rfl rfl
theorem gw_168 : (Jvm.Cond.methodLink "LogDisk" (72 : Nat) ({ cls := "LogDisk$Pages", name := "<init>", desc := "(I)V" } : Jvm.MethodName)) ∈ gTb := gT_1 168 rfl rfl
theorem gw_169 : (Jvm.Cond.instanceMethod ({ cls := "LogDisk$Pages", name := "<init>", desc := "(I)V" } : Jvm.MethodName)) ∈ gTb := gT_1 169 rfl rfl
theorem gw_170 : (Jvm.Cond.code ({ cls := "LogDisk$Pages", name := "<init>", desc := "(I)V" } : Jvm.MethodName) prog_6_method_1_code (3 : Nat) (Option.none : Option Jvm.ClassFile.FieldType)) ∈ gTb := gT_1 170 rfl rfl
theorem gw_171 : (Jvm.Cond.methodLink "LogDisk$Pages" (3 : Nat) ({ cls := "java/lang/Object", name := "<init>", desc := "()V" } : Jvm.MethodName)) ∈ gTb := gT_1 171 rfl rfl
theorem gw_172 : (Jvm.Cond.fieldLink "LogDisk$Pages" (9 : Nat) "LogDisk$Pages" "bytes" "[B") ∈ gTb := gT_1 172 rfl rfl
theorem gw_173 : (Jvm.Cond.fieldLink "LogDisk$DiskFile" (69 : Nat) "LogDisk$Pages" "bytes" "[B") ∈ gTb := gT_1 173 rfl rfl
theorem gw_174 : (Jvm.Cond.fieldLink "LogDisk$Pages" (15 : Nat) "LogDisk$Pages" "owners" "[I") ∈ gTb := gT_1 174 rfl rfl
theorem gw_175 : (Jvm.Cond.fieldLink "LogDisk$Pages" (19 : Nat) "LogDisk$Pages" "unused" "[I") ∈ gTb := gT_1 175 rfl rfl
theorem gw_176 : (Jvm.Cond.fieldLink "LogDisk$Pages" (22 : Nat) "LogDisk$Pages" "unusedCount" "I") ∈ gTb := gT_1 176 rfl rfl
theorem gw_177 : (Jvm.Cond.fieldLink "LogDisk$DiskFile" (47 : Nat) "LogDisk$Pages" "unusedCount" "I") ∈ gTb := gT_1 177 rfl rfl
theorem gw_178 : (Jvm.Cond.laysFinal "LogDisk$Pages" "LogDisk$Pages" "bytes" "[B") ∈ gTb := gT_1 178 rfl rfl
theorem gw_180 : (Jvm.Cond.laysFinal "LogDisk$Pages" "LogDisk$Pages" "owners" "[I") ∈ gTb := gT_1 180 rfl rfl
theorem gw_182 : (Jvm.Cond.laysFinal "LogDisk$Pages" "LogDisk$Pages" "unused" "[I") ∈ gTb := gT_1 182 rfl rfl
theorem gw_184 : (Jvm.Cond.lays "LogDisk$Pages" "LogDisk$Pages" "unusedCount" "I") ∈ gTb := gT_1 184 rfl rfl
theorem gw_187 : (Jvm.Cond.instantiable "LogDisk$DiskFile" (4 : Nat)) ∈ gTb := gT_1 187 rfl rfl
theorem gw_188 : (Jvm.Cond.methodLink "LogDisk" (75 : Nat) ({ cls := "LogDisk$DiskFile", name := "<init>", desc := "(LLogDisk$Pages;I)V" } : Jvm.MethodName)) ∈ gTb := gT_1 188 rfl rfl
theorem gw_189 : (Jvm.Cond.instanceMethod ({ cls := "LogDisk$DiskFile", name := "<init>", desc := "(LLogDisk$Pages;I)V" } : Jvm.MethodName)) ∈ gTb := gT_1 189 rfl rfl
theorem gw_190 : (Jvm.Cond.code ({ cls := "LogDisk$DiskFile", name := "<init>", desc := "(LLogDisk$Pages;I)V" } : Jvm.MethodName) prog_3_method_1_code (3 : Nat) (Option.none : Option Jvm.ClassFile.FieldType)) ∈ gTb := gT_1 190 rfl rfl
theorem gw_191 : (Jvm.Cond.methodLink "LogDisk$DiskFile" (3 : Nat) ({ cls := "java/lang/Object", name := "<init>", desc := "()V" } : Jvm.MethodName)) ∈ gTb := gT_1 191 rfl rfl
theorem gw_192 : (Jvm.Cond.classLink "LogDisk$DiskFile" (15 : Nat) "LogDisk$Content") ∈ gTb := gT_1 192 rfl rfl
theorem gw_193 : (Jvm.Cond.instantiable "LogDisk$Content" (3 : Nat)) ∈ gTb := gT_1 193 rfl rfl
theorem gw_194 : (Jvm.Cond.methodLink "LogDisk$DiskFile" (17 : Nat) ({ cls := "LogDisk$Content", name := "<init>", desc := "(I)V" } : Jvm.MethodName)) ∈ gTb := gT_1 194 rfl rfl
theorem gw_195 : (Jvm.Cond.instanceMethod ({ cls := "LogDisk$Content", name := "<init>", desc := "(I)V" } : Jvm.MethodName)) ∈ gTb := gT_1 195 rfl rfl
theorem gw_196 : (Jvm.Cond.code ({ cls := "LogDisk$Content", name := "<init>", desc := "(I)V" } : Jvm.MethodName) prog_2_method_1_code (2 : Nat) (Option.none : Option Jvm.ClassFile.FieldType)) ∈ gTb := gT_1 196 rfl rfl
theorem gw_197 : (Jvm.Cond.methodLink "LogDisk$Content" (1 : Nat) ({ cls := "java/lang/Object", name := "<init>", desc := "()V" } : Jvm.MethodName)) ∈ gTb := gT_1 197 rfl rfl
theorem gw_198 : (Jvm.Cond.fieldLink "LogDisk$Content" (7 : Nat) "LogDisk$Content" "row" "[I") ∈ gTb := gT_1 198 rfl rfl
theorem gw_199 : (Jvm.Cond.fieldLink "LogDisk$DiskFile" (35 : Nat) "LogDisk$Content" "row" "[I") ∈ gTb := gT_1 199 rfl rfl
theorem gw_200 : (Jvm.Cond.fieldLink "LogDisk$Content" (36 : Nat) "LogDisk$Content" "there" "Z") ∈ gTb := gT_1 200 rfl rfl
theorem gw_201 : (Jvm.Cond.fieldLink "LogDisk$DiskFile" (55 : Nat) "LogDisk$Content" "there" "Z") ∈ gTb := gT_1 201 rfl rfl
theorem gw_202 : (Jvm.Cond.fieldLink "LogDisk" (295 : Nat) "LogDisk$Content" "there" "Z") ∈ gTb := gT_1 202 rfl rfl
theorem gw_203 : (Jvm.Cond.fieldLink "LogDisk$Content" (13 : Nat) "LogDisk$Content" "size" "I") ∈ gTb := gT_1 203 rfl rfl
theorem gw_204 : (Jvm.Cond.fieldLink "LogDisk$DiskFile" (27 : Nat) "LogDisk$Content" "size" "I") ∈ gTb := gT_1 204 rfl rfl
theorem gw_205 : (Jvm.Cond.fieldLink "LogDisk" (286 : Nat) "LogDisk$Content" "size" "I") ∈ gTb := gT_1 205 rfl rfl
theorem gw_206 : (Jvm.Cond.laysFinal "LogDisk$Content" "LogDisk$Content" "row" "[I") ∈ gTb := gT_1 206 rfl rfl
theorem gw_208 : (Jvm.Cond.lays "LogDisk$Content" "LogDisk$Content" "there" "Z") ∈ gTb := gT_1 208 rfl rfl
theorem gw_210 : (Jvm.Cond.lays "LogDisk$Content" "LogDisk$Content" "size" "I") ∈ gTb := gT_1 210 rfl rfl
theorem gw_213 : (Jvm.Cond.fieldLink "LogDisk$DiskFile" (9 : Nat) "LogDisk$DiskFile" "pages" "LLogDisk$Pages;") ∈ gTb := gT_1 213 rfl rfl
theorem gw_214 : (Jvm.Cond.fieldLink "LogDisk$DiskFile" (20 : Nat) "LogDisk$DiskFile" "now" "LLogDisk$Content;") ∈ gTb := gT_1 214 rfl rfl
theorem gw_215 : (Jvm.Cond.fieldLink "LogDisk" (282 : Nat) "LogDisk$DiskFile" "now" "LLogDisk$Content;") ∈ gTb := gT_1 215 rfl rfl
theorem gw_216 : (Jvm.Cond.fieldLink "LogDisk$DiskFile" (24 : Nat) "LogDisk$DiskFile" "synced" "LLogDisk$Content;") ∈ gTb := gT_1 216 rfl rfl
theorem gw_217 : (Jvm.Cond.fieldLink "LogDisk" (289 : Nat) "LogDisk$DiskFile" "synced" "LLogDisk$Content;") ∈ gTb := gT_1 217 rfl rfl
theorem gw_218 : (Jvm.Cond.fieldLink "LogDisk$DiskFile" (86 : Nat) "LogDisk$DiskFile" "low" "I") ∈ gTb := gT_1 218 rfl rfl
theorem gw_219 : (Jvm.Cond.fieldLink "LogDisk" (292 : Nat) "LogDisk$DiskFile" "low" "I") ∈ gTb := gT_1 219 rfl rfl
theorem gw_220 : (Jvm.Cond.laysFinal "LogDisk$DiskFile" "LogDisk$DiskFile" "pages" "LLogDisk$Pages;") ∈ gTb := gT_1 220 rfl rfl
theorem gw_222 : (Jvm.Cond.laysFinal "LogDisk$DiskFile" "LogDisk$DiskFile" "now" "LLogDisk$Content;") ∈ gTb := gT_1 222 rfl rfl
theorem gw_224 : (Jvm.Cond.laysFinal "LogDisk$DiskFile" "LogDisk$DiskFile" "synced" "LLogDisk$Content;") ∈ gTb := gT_1 224 rfl rfl
theorem gw_226 : (Jvm.Cond.lays "LogDisk$DiskFile" "LogDisk$DiskFile" "low" "I") ∈ gTb := gT_1 226 rfl rfl
theorem gw_229 : (Jvm.Cond.fieldLink "LogDisk" (78 : Nat) "LogDisk" "pages" "LLogDisk$Pages;") ∈ gTb := gT_1 229 rfl rfl
theorem gw_230 : (Jvm.Cond.fieldLink "LogDisk" (11 : Nat) "LogDisk" "files" "[LLogDisk$DiskFile;") ∈ gTb := gT_1 230 rfl rfl
theorem gw_231 : (Jvm.Cond.fieldLink "LogDisk" (15 : Nat) "LogDisk" "keeps" "[I") ∈ gTb := gT_1 231 rfl rfl
theorem gw_232 : (Jvm.Cond.fieldLink "LogDisk" (22 : Nat) "LogDisk" "tape" "LLogDisk$Tape;") ∈ gTb := gT_1 232 rfl rfl
theorem gw_233 : (Jvm.Cond.fieldLink "LogDisk" (29 : Nat) "LogDisk" "frame" "LLogDisk$Frame;") ∈ gTb := gT_1 233 rfl rfl
theorem gw_234 : (Jvm.Cond.fieldLink "LogDisk" (36 : Nat) "LogDisk" "vote" "LLogDisk$Vote;") ∈ gTb := gT_1 234 rfl rfl
theorem gw_235 : (Jvm.Cond.fieldLink "LogDisk" (43 : Nat) "LogDisk" "snapshot" "LLogDisk$Snapshot;") ∈ gTb := gT_1 235 rfl rfl
theorem gw_236 : (Jvm.Cond.fieldLink "LogDisk" (50 : Nat) "LogDisk" "segments" "LLogDisk$Segments;") ∈ gTb := gT_1 236 rfl rfl
theorem gw_237 : (Jvm.Cond.fieldLink "LogDisk" (57 : Nat) "LogDisk" "entries" "LLogDisk$Entries;") ∈ gTb := gT_1 237 rfl rfl
theorem gw_238 : (Jvm.Cond.fieldLink "LogDisk" (82 : Nat) "LogDisk" "firstCode" "I") ∈ gTb := gT_1 238 rfl rfl
theorem gw_239 : (Jvm.Cond.fieldLink "LogDisk" (150 : Nat) "LogDisk" "last" "I") ∈ gTb := gT_1 239 rfl rfl
theorem gw_240 : (Jvm.Cond.fieldLink "LogDisk" (144 : Nat) "LogDisk" "dirty" "Z") ∈ gTb := gT_2 0 rfl rfl
theorem gw_241 : (Jvm.Cond.laysFinal "LogDisk" "LogDisk" "pages" "LLogDisk$Pages;") ∈ gTb := gT_2 1 rfl rfl
theorem gw_243 : (Jvm.Cond.laysFinal "LogDisk" "LogDisk" "files" "[LLogDisk$DiskFile;") ∈ gTb := gT_2 3 rfl rfl
theorem gw_245 : (Jvm.Cond.laysFinal "LogDisk" "LogDisk" "keeps" "[I") ∈ gTb := gT_2 5 rfl rfl
theorem gw_247 : (Jvm.Cond.laysFinal "LogDisk" "LogDisk" "tape" "LLogDisk$Tape;") ∈ gTb := gT_2 7 rfl rfl
theorem gw_249 : (Jvm.Cond.laysFinal "LogDisk" "LogDisk" "frame" "LLogDisk$Frame;") ∈ gTb := gT_2 9 rfl rfl
theorem gw_251 : (Jvm.Cond.laysFinal "LogDisk" "LogDisk" "vote" "LLogDisk$Vote;") ∈ gTb := gT_2 11 rfl rfl
theorem gw_253 : (Jvm.Cond.laysFinal "LogDisk" "LogDisk" "snapshot" "LLogDisk$Snapshot;") ∈ gTb := gT_2 13 rfl rfl
theorem gw_255 : (Jvm.Cond.laysFinal "LogDisk" "LogDisk" "segments" "LLogDisk$Segments;") ∈ gTb := gT_2 15 rfl rfl
theorem gw_257 : (Jvm.Cond.laysFinal "LogDisk" "LogDisk" "entries" "LLogDisk$Entries;") ∈ gTb := gT_2 17 rfl rfl
theorem gw_259 : (Jvm.Cond.laysFinal "LogDisk" "LogDisk" "firstCode" "I") ∈ gTb := gT_2 19 rfl rfl
theorem gw_261 : (Jvm.Cond.lays "LogDisk" "LogDisk" "last" "I") ∈ gTb := gT_2 21 rfl rfl
theorem gw_263 : (Jvm.Cond.lays "LogDisk" "LogDisk" "dirty" "Z") ∈ gTb := gT_2 23 rfl rfl
theorem gw_266 : (Jvm.Cond.methodLink "LogDiskLaw" (105 : Nat) ({ cls := "LogDisk", name := "sync", desc := "()Z" } : Jvm.MethodName)) ∈ gTb := gT_2 26 rfl rfl
theorem gw_267 : (Jvm.Cond.instanceMethod ({ cls := "LogDisk", name := "sync", desc := "()Z" } : Jvm.MethodName)) ∈ gTb := gT_2 27 rfl rfl
theorem gw_268 : (Jvm.Cond.selects "LogDisk" ({ cls := "LogDisk", name := "sync", desc := "()Z" } : Jvm.MethodName) ({ cls := "LogDisk", name := "sync", desc := "()Z" } : Jvm.MethodName)) ∈ gTb := gT_2 28 rfl rfl
theorem gw_269 : (Jvm.Cond.code ({ cls := "LogDisk", name := "sync", desc := "()Z" } : Jvm.MethodName) prog_1_method_8_code (2 : Nat) (Option.some Jvm.ClassFile.FieldType.boolean)) ∈ gTb := gT_2 29 rfl rfl
theorem gw_270 : (Jvm.Cond.methodLink "LogDisk" (224 : Nat) ({ cls := "LogDisk", name := "syncFiles", desc := "()V" } : Jvm.MethodName)) ∈ gTb := gT_2 30 rfl rfl
theorem gw_272 : (Jvm.Cond.instanceMethod ({ cls := "LogDisk", name := "syncFiles", desc := "()V" } : Jvm.MethodName)) ∈ gTb := gT_2 32 rfl rfl
theorem gw_273 : (Jvm.Cond.code ({ cls := "LogDisk", name := "syncFiles", desc := "()V" } : Jvm.MethodName) prog_1_method_29_code (2 : Nat) (Option.none : Option Jvm.ClassFile.FieldType)) ∈ gTb := gT_2 33 rfl rfl
theorem gw_274 : (Jvm.Cond.methodLink "LogDisk" (326 : Nat) ({ cls := "LogDisk$DiskFile", name := "settle", desc := "()V" } : Jvm.MethodName)) ∈ gTb := gT_2 34 rfl rfl
theorem gw_275 : (Jvm.Cond.instanceMethod ({ cls := "LogDisk$DiskFile", name := "settle", desc := "()V" } : Jvm.MethodName)) ∈ gTb := gT_2 35 rfl rfl
theorem gw_276 : (Jvm.Cond.selects "LogDisk$DiskFile" ({ cls := "LogDisk$DiskFile", name := "settle", desc := "()V" } : Jvm.MethodName) ({ cls := "LogDisk$DiskFile", name := "settle", desc := "()V" } : Jvm.MethodName)) ∈ gTb := gT_2 36 rfl rfl
theorem gw_277 : (Jvm.Cond.code ({ cls := "LogDisk$DiskFile", name := "settle", desc := "()V" } : Jvm.MethodName) prog_3_method_10_code (1 : Nat) (Option.none : Option Jvm.ClassFile.FieldType)) ∈ gTb := gT_2 37 rfl rfl
theorem gw_278 : (Jvm.Cond.methodLink "LogDisk$DiskFile" (89 : Nat) ({ cls := "LogDisk$Content", name := "become", desc := "(LLogDisk$Content;LLogDisk$Pages;)V" } : Jvm.MethodName)) ∈ gTb := gT_2 38 rfl rfl
theorem gw_279 : (Jvm.Cond.instanceMethod ({ cls := "LogDisk$Content", name := "become", desc := "(LLogDisk$Content;LLogDisk$Pages;)V" } : Jvm.MethodName)) ∈ gTb := gT_2 39 rfl rfl
theorem gw_280 : (Jvm.Cond.selects "LogDisk$Content" ({ cls := "LogDisk$Content", name := "become", desc := "(LLogDisk$Content;LLogDisk$Pages;)V" } : Jvm.MethodName) ({ cls := "LogDisk$Content", name := "become", desc := "(LLogDisk$Content;LLogDisk$Pages;)V" } : Jvm.MethodName)) ∈ gTb := gT_2 40 rfl rfl
theorem gw_281 : (Jvm.Cond.code ({ cls := "LogDisk$Content", name := "become", desc := "(LLogDisk$Content;LLogDisk$Pages;)V" } : Jvm.MethodName) prog_2_method_3_code (5 : Nat) (Option.none : Option Jvm.ClassFile.FieldType)) ∈ gTb := gT_2 41 rfl rfl
theorem gw_282 : (Jvm.Cond.methodLink "LogDisk$Content" (29 : Nat) ({ cls := "LogDisk$Content", name := "shorten", desc := "(ILLogDisk$Pages;)V" } : Jvm.MethodName)) ∈ gTb := gT_2 42 rfl rfl
theorem gw_283 : (Jvm.Cond.instanceMethod ({ cls := "LogDisk$Content", name := "shorten", desc := "(ILLogDisk$Pages;)V" } : Jvm.MethodName)) ∈ gTb := gT_2 43 rfl rfl
theorem gw_284 : (Jvm.Cond.selects "LogDisk$Content" ({ cls := "LogDisk$Content", name := "shorten", desc := "(ILLogDisk$Pages;)V" } : Jvm.MethodName) ({ cls := "LogDisk$Content", name := "shorten", desc := "(ILLogDisk$Pages;)V" } : Jvm.MethodName)) ∈ gTb := gT_2 44 rfl rfl
theorem gw_285 : (Jvm.Cond.code ({ cls := "LogDisk$Content", name := "shorten", desc := "(ILLogDisk$Pages;)V" } : Jvm.MethodName) prog_2_method_2_code (5 : Nat) (Option.none : Option Jvm.ClassFile.FieldType)) ∈ gTb := gT_2 45 rfl rfl
theorem gw_287 : (Jvm.Cond.static ({ cls := "LogDisk", name := "pagesFor", desc := "(I)I" } : Jvm.MethodName)) ∈ gTb := gT_2 47 rfl rfl
theorem gw_288 : (Jvm.Cond.code ({ cls := "LogDisk", name := "pagesFor", desc := "(I)I" } : Jvm.MethodName) prog_1_method_39_code (1 : Nat) (Option.some Jvm.ClassFile.FieldType.int)) ∈ gTb := gT_2 48 rfl rfl
theorem gw_289 : (Jvm.Cond.methodLink "LogDisk$Content" (23 : Nat) ({ cls := "LogDisk$Pages", name := "giveUp", desc := "(I)V" } : Jvm.MethodName)) ∈ gTb := gT_2 49 rfl rfl
theorem gw_290 : (Jvm.Cond.instanceMethod ({ cls := "LogDisk$Pages", name := "giveUp", desc := "(I)V" } : Jvm.MethodName)) ∈ gTb := gT_2 50 rfl rfl
theorem gw_291 : (Jvm.Cond.selects "LogDisk$Pages" ({ cls := "LogDisk$Pages", name := "giveUp", desc := "(I)V" } : Jvm.MethodName) ({ cls := "LogDisk$Pages", name := "giveUp", desc := "(I)V" } : Jvm.MethodName)) ∈ gTb := gT_2 51 rfl rfl
theorem gw_292 : (Jvm.Cond.code ({ cls := "LogDisk$Pages", name := "giveUp", desc := "(I)V" } : Jvm.MethodName) prog_6_method_5_code (2 : Nat) (Option.none : Option Jvm.ClassFile.FieldType)) ∈ gTb := gT_2 52 rfl rfl
theorem gw_293 : (Jvm.Cond.methodLink "LogDisk$Content" (33 : Nat) ({ cls := "LogDisk$Pages", name := "share", desc := "(I)V" } : Jvm.MethodName)) ∈ gTb := gT_2 53 rfl rfl
theorem gw_294 : (Jvm.Cond.instanceMethod ({ cls := "LogDisk$Pages", name := "share", desc := "(I)V" } : Jvm.MethodName)) ∈ gTb := gT_2 54 rfl rfl
theorem gw_295 : (Jvm.Cond.selects "LogDisk$Pages" ({ cls := "LogDisk$Pages", name := "share", desc := "(I)V" } : Jvm.MethodName) ({ cls := "LogDisk$Pages", name := "share", desc := "(I)V" } : Jvm.MethodName)) ∈ gTb := gT_2 55 rfl rfl
theorem gw_296 : (Jvm.Cond.code ({ cls := "LogDisk$Pages", name := "share", desc := "(I)V" } : Jvm.MethodName) prog_6_method_4_code (2 : Nat) (Option.none : Option Jvm.ClassFile.FieldType)) ∈ gTb := gT_2 56 rfl rfl
theorem gw_297 : (Jvm.Cond.methodLink "LogDiskLaw" (114 : Nat) ({ cls := "LogDisk", name := "crash", desc := "(J)I" } : Jvm.MethodName)) ∈ gTb := gT_2 57 rfl rfl
theorem gw_298 : (Jvm.Cond.instanceMethod ({ cls := "LogDisk", name := "crash", desc := "(J)I" } : Jvm.MethodName)) ∈ gTb := gT_2 58 rfl rfl
theorem gw_299 : (Jvm.Cond.selects "LogDisk" ({ cls := "LogDisk", name := "crash", desc := "(J)I" } : Jvm.MethodName) ({ cls := "LogDisk", name := "crash", desc := "(J)I" } : Jvm.MethodName)) ∈ gTb := gT_2 59 rfl rfl
theorem gw_300 : (Jvm.Cond.code ({ cls := "LogDisk", name := "crash", desc := "(J)I" } : Jvm.MethodName) prog_1_method_10_code (3 : Nat) (Option.some Jvm.ClassFile.FieldType.int)) ∈ gTb := gT_2 60 rfl rfl
theorem gw_301 : (Jvm.Cond.methodLink "LogDisk" (234 : Nat) ({ cls := "LogDisk", name := "crashFiles", desc := "(J)V" } : Jvm.MethodName)) ∈ gTb := gT_2 61 rfl rfl
theorem gw_303 : (Jvm.Cond.instanceMethod ({ cls := "LogDisk", name := "crashFiles", desc := "(J)V" } : Jvm.MethodName)) ∈ gTb := gT_2 63 rfl rfl
theorem gw_304 : (Jvm.Cond.code ({ cls := "LogDisk", name := "crashFiles", desc := "(J)V" } : Jvm.MethodName) prog_1_method_30_code (7 : Nat) (Option.none : Option Jvm.ClassFile.FieldType)) ∈ gTb := gT_2 64 rfl rfl
theorem gw_305 : (Jvm.Cond.constantLong "LogDisk" (338 : Nat) (6364136223846793005 : Int64)) ∈ gTb := gT_2 65 rfl rfl
theorem gw_306 : (Jvm.Cond.constantLong "LogDisk" (340 : Nat) (1442695040888963407 : Int64)) ∈ gTb := gT_2 66 rfl rfl
theorem gw_307 : (Jvm.Cond.methodLink "LogDisk" (342 : Nat) ({ cls := "LogDisk$DiskFile", name := "drawnKeep", desc := "(J)I" } : Jvm.MethodName)) ∈ gTb := gT_2 67 rfl rfl
theorem gw_308 : (Jvm.Cond.instanceMethod ({ cls := "LogDisk$DiskFile", name := "drawnKeep", desc := "(J)I" } : Jvm.MethodName)) ∈ gTb := gT_2 68 rfl rfl
theorem gw_309 : (Jvm.Cond.selects "LogDisk$DiskFile" ({ cls := "LogDisk$DiskFile", name := "drawnKeep", desc := "(J)I" } : Jvm.MethodName) ({ cls := "LogDisk$DiskFile", name := "drawnKeep", desc := "(J)I" } : Jvm.MethodName)) ∈ gTb := gT_2 69 rfl rfl
theorem gw_310 : (Jvm.Cond.code ({ cls := "LogDisk$DiskFile", name := "drawnKeep", desc := "(J)I" } : Jvm.MethodName) prog_3_method_11_code (5 : Nat) (Option.some Jvm.ClassFile.FieldType.int)) ∈ gTb := gT_2 70 rfl rfl
theorem gw_311 : (Jvm.Cond.constant "LogDisk$DiskFile" (93 : Nat) (1048575 : Int32)) ∈ gTb := gT_2 71 rfl rfl
theorem gw_312 : (Jvm.Cond.methodLink "LogDisk$DiskFile" (94 : Nat) ({ cls := "java/lang/Math", name := "max", desc := "(II)I" } : Jvm.MethodName)) ∈ gTb := gT_2 72 rfl rfl
theorem gw_313 : (Jvm.Cond.methodLink "LogDisk" (346 : Nat) ({ cls := "LogDisk$DiskFile", name := "fail", desc := "(I)V" } : Jvm.MethodName)) ∈ gTb := gT_2 73 rfl rfl
theorem gw_314 : (Jvm.Cond.instanceMethod ({ cls := "LogDisk$DiskFile", name := "fail", desc := "(I)V" } : Jvm.MethodName)) ∈ gTb := gT_2 74 rfl rfl
theorem gw_315 : (Jvm.Cond.selects "LogDisk$DiskFile" ({ cls := "LogDisk$DiskFile", name := "fail", desc := "(I)V" } : Jvm.MethodName) ({ cls := "LogDisk$DiskFile", name := "fail", desc := "(I)V" } : Jvm.MethodName)) ∈ gTb := gT_2 75 rfl rfl
theorem gw_316 : (Jvm.Cond.code ({ cls := "LogDisk$DiskFile", name := "fail", desc := "(I)V" } : Jvm.MethodName) prog_3_method_12_code (4 : Nat) (Option.none : Option Jvm.ClassFile.FieldType)) ∈ gTb := gT_2 76 rfl rfl
theorem gw_317 : (Jvm.Cond.methodLink "LogDisk$DiskFile" (97 : Nat) ({ cls := "LogDisk$DiskFile", name := "cutTo", desc := "(I)V" } : Jvm.MethodName)) ∈ gTb := gT_2 77 rfl rfl
theorem gw_318 : (Jvm.Cond.instanceMethod ({ cls := "LogDisk$DiskFile", name := "cutTo", desc := "(I)V" } : Jvm.MethodName)) ∈ gTb := gT_2 78 rfl rfl
theorem gw_319 : (Jvm.Cond.selects "LogDisk$DiskFile" ({ cls := "LogDisk$DiskFile", name := "cutTo", desc := "(I)V" } : Jvm.MethodName) ({ cls := "LogDisk$DiskFile", name := "cutTo", desc := "(I)V" } : Jvm.MethodName)) ∈ gTb := gT_2 79 rfl rfl
theorem gw_320 : (Jvm.Cond.code ({ cls := "LogDisk$DiskFile", name := "cutTo", desc := "(I)V" } : Jvm.MethodName) prog_3_method_8_code (2 : Nat) (Option.none : Option Jvm.ClassFile.FieldType)) ∈ gTb := gT_2 80 rfl rfl
theorem gw_321 : (Jvm.Cond.methodLink "LogDisk$DiskFile" (82 : Nat) ({ cls := "LogDisk$Content", name := "shorten", desc := "(ILLogDisk$Pages;)V" } : Jvm.MethodName)) ∈ gTb := gT_2 81 rfl rfl
theorem gw_322 : (Jvm.Cond.methodLink "LogDisk$DiskFile" (63 : Nat) ({ cls := "java/lang/Math", name := "min", desc := "(II)I" } : Jvm.MethodName)) ∈ gTb := gT_2 82 rfl rfl
theorem gw_323 : (Jvm.Cond.methodLink "LogDisk$DiskFile" (100 : Nat) ({ cls := "LogDisk$DiskFile", name := "settle", desc := "()V" } : Jvm.MethodName)) ∈ gTb := gT_2 83 rfl rfl
theorem gw_324 : (Jvm.Cond.methodLink "LogDisk" (238 : Nat) ({ cls := "LogDisk", name := "findVote", desc := "()V" } : Jvm.MethodName)) ∈ gTb := gT_2 84 rfl rfl
theorem gw_326 : (Jvm.Cond.instanceMethod ({ cls := "LogDisk", name := "findVote", desc := "()V" } : Jvm.MethodName)) ∈ gTb := gT_2 86 rfl rfl
theorem gw_327 : (Jvm.Cond.code ({ cls := "LogDisk", name := "findVote", desc := "()V" } : Jvm.MethodName) prog_1_method_31_code (5 : Nat) (Option.none : Option Jvm.ClassFile.FieldType)) ∈ gTb := gT_2 87 rfl rfl
theorem gw_328 : (Jvm.Cond.methodLink "LogDisk" (349 : Nat) ({ cls := "LogDisk$Vote", name := "forget", desc := "()V" } : Jvm.MethodName)) ∈ gTb := gT_2 88 rfl rfl
theorem gw_329 : (Jvm.Cond.instanceMethod ({ cls := "LogDisk$Vote", name := "forget", desc := "()V" } : Jvm.MethodName)) ∈ gTb := gT_2 89 rfl rfl
theorem gw_330 : (Jvm.Cond.selects "LogDisk$Vote" ({ cls := "LogDisk$Vote", name := "forget", desc := "()V" } : Jvm.MethodName) ({ cls := "LogDisk$Vote", name := "forget", desc := "()V" } : Jvm.MethodName)) ∈ gTb := gT_2 90 rfl rfl
theorem gw_331 : (Jvm.Cond.code ({ cls := "LogDisk$Vote", name := "forget", desc := "()V" } : Jvm.MethodName) prog_10_method_3_code (1 : Nat) (Option.none : Option Jvm.ClassFile.FieldType)) ∈ gTb := gT_2 91 rfl rfl
theorem gw_332 : (Jvm.Cond.methodLink "LogDisk$Vote" (25 : Nat) ({ cls := "LogDisk$Vote", name := "set", desc := "(IJII)V" } : Jvm.MethodName)) ∈ gTb := gT_2 92 rfl rfl
theorem gw_333 : (Jvm.Cond.instanceMethod ({ cls := "LogDisk$Vote", name := "set", desc := "(IJII)V" } : Jvm.MethodName)) ∈ gTb := gT_2 93 rfl rfl
theorem gw_334 : (Jvm.Cond.selects "LogDisk$Vote" ({ cls := "LogDisk$Vote", name := "set", desc := "(IJII)V" } : Jvm.MethodName) ({ cls := "LogDisk$Vote", name := "set", desc := "(IJII)V" } : Jvm.MethodName)) ∈ gTb := gT_2 94 rfl rfl
theorem gw_335 : (Jvm.Cond.code ({ cls := "LogDisk$Vote", name := "set", desc := "(IJII)V" } : Jvm.MethodName) prog_10_method_2_code (6 : Nat) (Option.none : Option Jvm.ClassFile.FieldType)) ∈ gTb := gT_2 95 rfl rfl
theorem gw_336 : (Jvm.Cond.methodLink "LogDisk" (352 : Nat) ({ cls := "LogDisk$DiskFile", name := "wholeFrame", desc := "(I)I" } : Jvm.MethodName)) ∈ gTb := gT_2 96 rfl rfl
theorem gw_337 : (Jvm.Cond.instanceMethod ({ cls := "LogDisk$DiskFile", name := "wholeFrame", desc := "(I)I" } : Jvm.MethodName)) ∈ gTb := gT_2 97 rfl rfl
theorem gw_338 : (Jvm.Cond.selects "LogDisk$DiskFile" ({ cls := "LogDisk$DiskFile", name := "wholeFrame", desc := "(I)I" } : Jvm.MethodName) ({ cls := "LogDisk$DiskFile", name := "wholeFrame", desc := "(I)I" } : Jvm.MethodName)) ∈ gTb := gT_2 98 rfl rfl
theorem gw_339 : (Jvm.Cond.code ({ cls := "LogDisk$DiskFile", name := "wholeFrame", desc := "(I)I" } : Jvm.MethodName) prog_3_method_15_code (6 : Nat) (Option.some Jvm.ClassFile.FieldType.int)) ∈ gTb := gT_2 99 rfl rfl
theorem gw_340 : (Jvm.Cond.methodLink "LogDisk$DiskFile" (106 : Nat) ({ cls := "LogDisk$DiskFile", name := "number", desc := "(II)J" } : Jvm.MethodName)) ∈ gTb := gT_2 100 rfl rfl
theorem gw_341 : (Jvm.Cond.instanceMethod ({ cls := "LogDisk$DiskFile", name := "number", desc := "(II)J" } : Jvm.MethodName)) ∈ gTb := gT_2 101 rfl rfl
theorem gw_342 : (Jvm.Cond.selects "LogDisk$DiskFile" ({ cls := "LogDisk$DiskFile", name := "number", desc := "(II)J" } : Jvm.MethodName) ({ cls := "LogDisk$DiskFile", name := "number", desc := "(II)J" } : Jvm.MethodName)) ∈ gTb := gT_2 102 rfl rfl
theorem gw_343 : (Jvm.Cond.code ({ cls := "LogDisk$DiskFile", name := "number", desc := "(II)J" } : Jvm.MethodName) prog_3_method_14_code (6 : Nat) (Option.some Jvm.ClassFile.FieldType.long)) ∈ gTb := gT_2 103 rfl rfl
theorem gw_344 : (Jvm.Cond.methodLink "LogDisk$DiskFile" (103 : Nat) ({ cls := "LogDisk$DiskFile", name := "read", desc := "(I)I" } : Jvm.MethodName)) ∈ gTb := gT_2 104 rfl rfl
theorem gw_345 : (Jvm.Cond.instanceMethod ({ cls := "LogDisk$DiskFile", name := "read", desc := "(I)I" } : Jvm.MethodName)) ∈ gTb := gT_2 105 rfl rfl
theorem gw_346 : (Jvm.Cond.selects "LogDisk$DiskFile" ({ cls := "LogDisk$DiskFile", name := "read", desc := "(I)I" } : Jvm.MethodName) ({ cls := "LogDisk$DiskFile", name := "read", desc := "(I)I" } : Jvm.MethodName)) ∈ gTb := gT_2 106 rfl rfl
theorem gw_347 : (Jvm.Cond.code ({ cls := "LogDisk$DiskFile", name := "read", desc := "(I)I" } : Jvm.MethodName) prog_3_method_13_code (2 : Nat) (Option.some Jvm.ClassFile.FieldType.int)) ∈ gTb := gT_2 107 rfl rfl
theorem gw_349 : (Jvm.Cond.static ({ cls := "LogDisk", name := "sumStep", desc := "(II)I" } : Jvm.MethodName)) ∈ gTb := gT_2 109 rfl rfl
theorem gw_350 : (Jvm.Cond.code ({ cls := "LogDisk", name := "sumStep", desc := "(II)I" } : Jvm.MethodName) prog_1_method_40_code (3 : Nat) (Option.some Jvm.ClassFile.FieldType.int)) ∈ gTb := gT_2 110 rfl rfl
theorem gw_351 : (Jvm.Cond.fieldLink "LogDisk" (384 : Nat) "LogDisk" "SUM_OF_HALF" "[I") ∈ gTb := gT_2 111 rfl rfl
theorem gw_353 : (Jvm.Cond.methodLink "LogDisk" (355 : Nat) ({ cls := "LogDisk$DiskFile", name := "number", desc := "(II)J" } : Jvm.MethodName)) ∈ gTb := gT_2 113 rfl rfl
theorem gw_354 : (Jvm.Cond.methodLink "LogDisk" (133 : Nat) ({ cls := "LogDisk$Vote", name := "set", desc := "(IJII)V" } : Jvm.MethodName)) ∈ gTb := gT_2 114 rfl rfl
theorem gw_355 : (Jvm.Cond.methodLink "LogDisk" (241 : Nat) ({ cls := "LogDisk", name := "findSnapshot", desc := "()V" } : Jvm.MethodName)) ∈ gTb := gT_2 115 rfl rfl
theorem gw_357 : (Jvm.Cond.instanceMethod ({ cls := "LogDisk", name := "findSnapshot", desc := "()V" } : Jvm.MethodName)) ∈ gTb := gT_2 117 rfl rfl
theorem gw_358 : (Jvm.Cond.code ({ cls := "LogDisk", name := "findSnapshot", desc := "()V" } : Jvm.MethodName) prog_1_method_32_code (5 : Nat) (Option.none : Option Jvm.ClassFile.FieldType)) ∈ gTb := gT_2 118 rfl rfl
theorem gw_359 : (Jvm.Cond.methodLink "LogDisk" (324 : Nat) ({ cls := "LogDisk$Snapshot", name := "set", desc := "(IIII)V" } : Jvm.MethodName)) ∈ gTb := gT_2 119 rfl rfl
theorem gw_360 : (Jvm.Cond.instanceMethod ({ cls := "LogDisk$Snapshot", name := "set", desc := "(IIII)V" } : Jvm.MethodName)) ∈ gTb := gT_2 120 rfl rfl
theorem gw_361 : (Jvm.Cond.selects "LogDisk$Snapshot" ({ cls := "LogDisk$Snapshot", name := "set", desc := "(IIII)V" } : Jvm.MethodName) ({ cls := "LogDisk$Snapshot", name := "set", desc := "(IIII)V" } : Jvm.MethodName)) ∈ gTb := gT_2 121 rfl rfl
theorem gw_362 : (Jvm.Cond.code ({ cls := "LogDisk$Snapshot", name := "set", desc := "(IIII)V" } : Jvm.MethodName) prog_8_method_2_code (5 : Nat) (Option.none : Option Jvm.ClassFile.FieldType)) ∈ gTb := gT_2 122 rfl rfl
theorem gw_363 : (Jvm.Cond.methodLink "LogDisk" (244 : Nat) ({ cls := "LogDisk", name := "findLog", desc := "()V" } : Jvm.MethodName)) ∈ gTb := gT_2 123 rfl rfl
theorem gw_365 : (Jvm.Cond.instanceMethod ({ cls := "LogDisk", name := "findLog", desc := "()V" } : Jvm.MethodName)) ∈ gTb := gT_2 125 rfl rfl
theorem gw_366 : (Jvm.Cond.code ({ cls := "LogDisk", name := "findLog", desc := "()V" } : Jvm.MethodName) prog_1_method_33_code (4 : Nat) (Option.none : Option Jvm.ClassFile.FieldType)) ∈ gTb := gT_2 126 rfl rfl
theorem gw_367 : (Jvm.Cond.methodLink "LogDisk" (359 : Nat) ({ cls := "LogDisk", name := "firstSegment", desc := "()I" } : Jvm.MethodName)) ∈ gTb := gT_2 127 rfl rfl
theorem gw_369 : (Jvm.Cond.instanceMethod ({ cls := "LogDisk", name := "firstSegment", desc := "()I" } : Jvm.MethodName)) ∈ gTb := gT_2 129 rfl rfl
theorem gw_370 : (Jvm.Cond.code ({ cls := "LogDisk", name := "firstSegment", desc := "()I" } : Jvm.MethodName) prog_1_method_35_code (5 : Nat) (Option.some Jvm.ClassFile.FieldType.int)) ∈ gTb := gT_2 130 rfl rfl
theorem gw_371 : (Jvm.Cond.methodLink "LogDisk" (375 : Nat) ({ cls := "LogDisk$DiskFile", name := "segmentFirst", desc := "()I" } : Jvm.MethodName)) ∈ gTb := gT_2 131 rfl rfl
theorem gw_372 : (Jvm.Cond.instanceMethod ({ cls := "LogDisk$DiskFile", name := "segmentFirst", desc := "()I" } : Jvm.MethodName)) ∈ gTb := gT_2 132 rfl rfl
theorem gw_373 : (Jvm.Cond.selects "LogDisk$DiskFile" ({ cls := "LogDisk$DiskFile", name := "segmentFirst", desc := "()I" } : Jvm.MethodName) ({ cls := "LogDisk$DiskFile", name := "segmentFirst", desc := "()I" } : Jvm.MethodName)) ∈ gTb := gT_2 133 rfl rfl
theorem gw_374 : (Jvm.Cond.code ({ cls := "LogDisk$DiskFile", name := "segmentFirst", desc := "()I" } : Jvm.MethodName) prog_3_method_16_code (1 : Nat) (Option.some Jvm.ClassFile.FieldType.int)) ∈ gTb := gT_2 134 rfl rfl
theorem gw_375 : (Jvm.Cond.methodLink "LogDisk$DiskFile" (113 : Nat) ({ cls := "LogDisk$DiskFile", name := "wholeFrame", desc := "(I)I" } : Jvm.MethodName)) ∈ gTb := gT_2 135 rfl rfl
theorem gw_376 : (Jvm.Cond.methodLink "LogDisk" (362 : Nat) ({ cls := "LogDisk", name := "readSegment", desc := "(I)I" } : Jvm.MethodName)) ∈ gTb := gT_2 136 rfl rfl
theorem gw_378 : (Jvm.Cond.instanceMethod ({ cls := "LogDisk", name := "readSegment", desc := "(I)I" } : Jvm.MethodName)) ∈ gTb := gT_2 138 rfl rfl
theorem gw_379 : (Jvm.Cond.code ({ cls := "LogDisk", name := "readSegment", desc := "(I)I" } : Jvm.MethodName) prog_1_method_37_code (8 : Nat) (Option.some Jvm.ClassFile.FieldType.int)) ∈ gTb := gT_2 139 rfl rfl
theorem gw_380 : (Jvm.Cond.methodLink "LogDisk" (275 : Nat) ({ cls := "LogDisk$DiskFile", name := "read", desc := "(I)I" } : Jvm.MethodName)) ∈ gTb := gT_2 140 rfl rfl
theorem gw_381 : (Jvm.Cond.methodLink "LogDisk" (318 : Nat) ({ cls := "LogDisk$Entries", name := "set", desc := "(IIIIII)V" } : Jvm.MethodName)) ∈ gTb := gT_2 141 rfl rfl
theorem gw_382 : (Jvm.Cond.instanceMethod ({ cls := "LogDisk$Entries", name := "set", desc := "(IIIIII)V" } : Jvm.MethodName)) ∈ gTb := gT_2 142 rfl rfl
theorem gw_383 : (Jvm.Cond.selects "LogDisk$Entries" ({ cls := "LogDisk$Entries", name := "set", desc := "(IIIIII)V" } : Jvm.MethodName) ({ cls := "LogDisk$Entries", name := "set", desc := "(IIIIII)V" } : Jvm.MethodName)) ∈ gTb := gT_2 143 rfl rfl
theorem gw_384 : (Jvm.Cond.code ({ cls := "LogDisk$Entries", name := "set", desc := "(IIIIII)V" } : Jvm.MethodName) prog_4_method_3_code (8 : Nat) (Option.none : Option Jvm.ClassFile.FieldType)) ∈ gTb := gT_2 144 rfl rfl
theorem gw_385 : (Jvm.Cond.methodLink "LogDisk$Entries" (33 : Nat) ({ cls := "LogDisk$Entries", name := "slot", desc := "(I)I" } : Jvm.MethodName)) ∈ gTb := gT_2 145 rfl rfl
theorem gw_386 : (Jvm.Cond.instanceMethod ({ cls := "LogDisk$Entries", name := "slot", desc := "(I)I" } : Jvm.MethodName)) ∈ gTb := gT_2 146 rfl rfl
theorem gw_387 : (Jvm.Cond.selects "LogDisk$Entries" ({ cls := "LogDisk$Entries", name := "slot", desc := "(I)I" } : Jvm.MethodName) ({ cls := "LogDisk$Entries", name := "slot", desc := "(I)I" } : Jvm.MethodName)) ∈ gTb := gT_2 147 rfl rfl
theorem gw_388 : (Jvm.Cond.code ({ cls := "LogDisk$Entries", name := "slot", desc := "(I)I" } : Jvm.MethodName) prog_4_method_2_code (2 : Nat) (Option.some Jvm.ClassFile.FieldType.int)) ∈ gTb := gT_2 148 rfl rfl
theorem gw_389 : (Jvm.Cond.methodLink "LogDisk$Entries" (27 : Nat) ({ cls := "java/lang/Math", name := "floorMod", desc := "(II)I" } : Jvm.MethodName)) ∈ gTb := gT_2 149 rfl rfl
theorem gw_390 : (Jvm.Cond.static ({ cls := "java/lang/Math", name := "floorMod", desc := "(II)I" } : Jvm.MethodName)) ∈ gTb := gT_2 150 rfl rfl
theorem gw_391 : (Jvm.Cond.code ({ cls := "java/lang/Math", name := "floorMod", desc := "(II)I" } : Jvm.MethodName) prog_17_method_50_code (3 : Nat) (Option.some Jvm.ClassFile.FieldType.int)) ∈ gTb := gT_2 151 rfl rfl
theorem gw_392 : (Jvm.Cond.methodLink "LogDisk" (213 : Nat) ({ cls := "LogDisk$DiskFile", name := "cutTo", desc := "(I)V" } : Jvm.MethodName)) ∈ gTb := gT_2 152 rfl rfl
theorem gw_393 : (Jvm.Cond.methodLink "LogDisk" (365 : Nat) ({ cls := "LogDisk", name := "holdsBase", desc := "(II)Z" } : Jvm.MethodName)) ∈ gTb := gT_2 153 rfl rfl
theorem gw_395 : (Jvm.Cond.instanceMethod ({ cls := "LogDisk", name := "holdsBase", desc := "(II)Z" } : Jvm.MethodName)) ∈ gTb := gT_2 155 rfl rfl
theorem gw_396 : (Jvm.Cond.code ({ cls := "LogDisk", name := "holdsBase", desc := "(II)Z" } : Jvm.MethodName) prog_1_method_38_code (3 : Nat) (Option.some Jvm.ClassFile.FieldType.boolean)) ∈ gTb := gT_2 156 rfl rfl
theorem gw_397 : (Jvm.Cond.methodLink "LogDisk" (381 : Nat) ({ cls := "LogDisk$DiskFile", name := "termBefore", desc := "()I" } : Jvm.MethodName)) ∈ gTb := gT_2 157 rfl rfl
theorem gw_398 : (Jvm.Cond.instanceMethod ({ cls := "LogDisk$DiskFile", name := "termBefore", desc := "()I" } : Jvm.MethodName)) ∈ gTb := gT_2 158 rfl rfl
theorem gw_399 : (Jvm.Cond.selects "LogDisk$DiskFile" ({ cls := "LogDisk$DiskFile", name := "termBefore", desc := "()I" } : Jvm.MethodName) ({ cls := "LogDisk$DiskFile", name := "termBefore", desc := "()I" } : Jvm.MethodName)) ∈ gTb := gT_2 159 rfl rfl
theorem gw_400 : (Jvm.Cond.code ({ cls := "LogDisk$DiskFile", name := "termBefore", desc := "()I" } : Jvm.MethodName) prog_3_method_17_code (1 : Nat) (Option.some Jvm.ClassFile.FieldType.int)) ∈ gTb := gT_2 160 rfl rfl
theorem gw_401 : (Jvm.Cond.methodLink "LogDisk" (206 : Nat) ({ cls := "LogDisk$Entries", name := "slot", desc := "(I)I" } : Jvm.MethodName)) ∈ gTb := gT_2 161 rfl rfl
theorem gw_402 : (Jvm.Cond.methodLink "LogDisk" (369 : Nat) ({ cls := "LogDisk", name := "followSegments", desc := "(II)V" } : Jvm.MethodName)) ∈ gTb := gT_2 162 rfl rfl
theorem gw_404 : (Jvm.Cond.instanceMethod ({ cls := "LogDisk", name := "followSegments", desc := "(II)V" } : Jvm.MethodName)) ∈ gTb := gT_2 164 rfl rfl
theorem gw_405 : (Jvm.Cond.code ({ cls := "LogDisk", name := "followSegments", desc := "(II)V" } : Jvm.MethodName) prog_1_method_34_code (7 : Nat) (Option.none : Option Jvm.ClassFile.FieldType)) ∈ gTb := gT_2 165 rfl rfl
theorem gw_406 : (Jvm.Cond.methodLink "LogDisk" (315 : Nat) ({ cls := "LogDisk$Segments", name := "add", desc := "(II)V" } : Jvm.MethodName)) ∈ gTb := gT_2 166 rfl rfl
theorem gw_407 : (Jvm.Cond.instanceMethod ({ cls := "LogDisk$Segments", name := "add", desc := "(II)V" } : Jvm.MethodName)) ∈ gTb := gT_2 167 rfl rfl
theorem gw_408 : (Jvm.Cond.selects "LogDisk$Segments" ({ cls := "LogDisk$Segments", name := "add", desc := "(II)V" } : Jvm.MethodName) ({ cls := "LogDisk$Segments", name := "add", desc := "(II)V" } : Jvm.MethodName)) ∈ gTb := gT_2 168 rfl rfl
theorem gw_409 : (Jvm.Cond.code ({ cls := "LogDisk$Segments", name := "add", desc := "(II)V" } : Jvm.MethodName) prog_7_method_2_code (3 : Nat) (Option.none : Option Jvm.ClassFile.FieldType)) ∈ gTb := gT_2 169 rfl rfl
theorem gw_410 : (Jvm.Cond.methodLink "LogDisk" (378 : Nat) ({ cls := "LogDisk", name := "segmentBehind", desc := "(II)I" } : Jvm.MethodName)) ∈ gTb := gT_2 170 rfl rfl
theorem gw_412 : (Jvm.Cond.instanceMethod ({ cls := "LogDisk", name := "segmentBehind", desc := "(II)I" } : Jvm.MethodName)) ∈ gTb := gT_2 172 rfl rfl
theorem gw_413 : (Jvm.Cond.code ({ cls := "LogDisk", name := "segmentBehind", desc := "(II)I" } : Jvm.MethodName) prog_1_method_36_code (4 : Nat) (Option.some Jvm.ClassFile.FieldType.int)) ∈ gTb := gT_2 173 rfl rfl
theorem gw_414 : (Jvm.Cond.methodLink "LogDisk" (372 : Nat) ({ cls := "LogDisk$Segments", name := "has", desc := "(I)Z" } : Jvm.MethodName)) ∈ gTb := gT_2 174 rfl rfl
theorem gw_415 : (Jvm.Cond.instanceMethod ({ cls := "LogDisk$Segments", name := "has", desc := "(I)Z" } : Jvm.MethodName)) ∈ gTb := gT_2 175 rfl rfl
theorem gw_416 : (Jvm.Cond.selects "LogDisk$Segments" ({ cls := "LogDisk$Segments", name := "has", desc := "(I)Z" } : Jvm.MethodName) ({ cls := "LogDisk$Segments", name := "has", desc := "(I)Z" } : Jvm.MethodName)) ∈ gTb := gT_2 176 rfl rfl
theorem gw_417 : (Jvm.Cond.code ({ cls := "LogDisk$Segments", name := "has", desc := "(I)Z" } : Jvm.MethodName) prog_7_method_4_code (3 : Nat) (Option.some Jvm.ClassFile.FieldType.boolean)) ∈ gTb := gT_2 177 rfl rfl
theorem gw_418 : (Jvm.Cond.methodLink "LogDisk" (203 : Nat) ({ cls := "LogDisk$DiskFile", name := "remove", desc := "()V" } : Jvm.MethodName)) ∈ gTb := gT_2 178 rfl rfl
theorem gw_419 : (Jvm.Cond.instanceMethod ({ cls := "LogDisk$DiskFile", name := "remove", desc := "()V" } : Jvm.MethodName)) ∈ gTb := gT_2 179 rfl rfl
theorem gw_420 : (Jvm.Cond.selects "LogDisk$DiskFile" ({ cls := "LogDisk$DiskFile", name := "remove", desc := "()V" } : Jvm.MethodName) ({ cls := "LogDisk$DiskFile", name := "remove", desc := "()V" } : Jvm.MethodName)) ∈ gTb := gT_2 180 rfl rfl
theorem gw_421 : (Jvm.Cond.code ({ cls := "LogDisk$DiskFile", name := "remove", desc := "()V" } : Jvm.MethodName) prog_3_method_9_code (1 : Nat) (Option.none : Option Jvm.ClassFile.FieldType)) ∈ gTb := gT_2 181 rfl rfl
theorem gw_422 : (Jvm.Cond.methodLink "LogDiskLaw" (66 : Nat) ({ cls := "LogDiskLaw", name := "cell", desc := "([II)I" } : Jvm.MethodName)) ∈ gTb := gT_2 182 rfl rfl
theorem gw_423 : (Jvm.Cond.static ({ cls := "LogDiskLaw", name := "cell", desc := "([II)I" } : Jvm.MethodName)) ∈ gTb := gT_2 183 rfl rfl
theorem gw_424 : (Jvm.Cond.code ({ cls := "LogDiskLaw", name := "cell", desc := "([II)I" } : Jvm.MethodName) method_2_code (2 : Nat) (Option.some Jvm.ClassFile.FieldType.int)) ∈ gTb := gT_2 184 rfl rfl
theorem gw_425 : (Jvm.Cond.methodLink "LogDiskLaw" (79 : Nat) ({ cls := "LogDiskLaw", name := "feed", desc := "(LLogDisk;JI[J)I" } : Jvm.MethodName)) ∈ gTb := gT_2 185 rfl rfl
theorem gw_426 : (Jvm.Cond.static ({ cls := "LogDiskLaw", name := "feed", desc := "(LLogDisk;JI[J)I" } : Jvm.MethodName)) ∈ gTb := gT_2 186 rfl rfl
theorem gw_427 : (Jvm.Cond.codeWith ({ cls := "LogDiskLaw", name := "feed", desc := "(LLogDisk;JI[J)I" } : Jvm.MethodName) method_3_code (6 : Nat) (Option.some Jvm.ClassFile.FieldType.int) [((0 : Nat), (11 : Nat), (14 : Nat), (13 : Nat)), ((0 : Nat), (11 : Nat), (18 : Nat), (15 : Nat))]) ∈ gTb := gT_2 187 rfl rfl
theorem gw_428 : (Jvm.Cond.classLink "LogDiskLaw" (13 : Nat) "java/lang/IllegalArgumentException") ∈ gTb := gT_2 188 rfl rfl
theorem gw_429 : (Jvm.Cond.classLink "LogDiskLaw" (15 : Nat) "java/lang/IllegalStateException") ∈ gTb := gT_2 189 rfl rfl
theorem gw_430 : (Jvm.Cond.methodLink "LogDiskLaw" (7 : Nat) ({ cls := "LogDisk", name := "feed", desc := "(JI)I" } : Jvm.MethodName)) ∈ gTb := gT_2 190 rfl rfl
theorem gw_431 : (Jvm.Cond.instanceMethod ({ cls := "LogDisk", name := "feed", desc := "(JI)I" } : Jvm.MethodName)) ∈ gTb := gT_2 191 rfl rfl
theorem gw_432 : (Jvm.Cond.selects "LogDisk" ({ cls := "LogDisk", name := "feed", desc := "(JI)I" } : Jvm.MethodName) ({ cls := "LogDisk", name := "feed", desc := "(JI)I" } : Jvm.MethodName)) ∈ gTb := gT_2 192 rfl rfl
theorem gw_433 : (Jvm.Cond.code ({ cls := "LogDisk", name := "feed", desc := "(JI)I" } : Jvm.MethodName) prog_1_method_2_code (5 : Nat) (Option.some Jvm.ClassFile.FieldType.int)) ∈ gTb := gT_2 193 rfl rfl
theorem gw_434 : (Jvm.Cond.classLink "LogDisk" (89 : Nat) "java/lang/IllegalArgumentException") ∈ gTb := gT_2 194 rfl rfl
theorem gw_435 : (Jvm.Cond.instantiable "java/lang/IllegalArgumentException" (6 : Nat)) ∈ gTb := gT_2 195 rfl rfl
theorem gw_443 : (Jvm.Cond.selects "java/lang/IllegalArgumentException" ({ cls := "java/lang/Throwable", name := "fillInStackTrace", desc := "(I)Ljava/lang/Throwable;" } : Jvm.MethodName) ({ cls := "java/lang/Throwable", name := "fillInStackTrace", desc := "(I)Ljava/lang/Throwable;" } : Jvm.MethodName)) ∈ gTb := gT_2 203 rfl rfl
theorem gw_444 : (Jvm.Cond.selects "java/lang/IllegalArgumentException" ({ cls := "java/lang/Throwable", name := "fillInStackTrace", desc := "()Ljava/lang/Throwable;" } : Jvm.MethodName) ({ cls := "java/lang/Throwable", name := "fillInStackTrace", desc := "()Ljava/lang/Throwable;" } : Jvm.MethodName)) ∈ gTb := gT_2 204 rfl rfl
theorem gw_445 : (Jvm.Cond.lays "java/lang/IllegalArgumentException" "java/lang/Throwable" "cause" "Ljava/lang/Throwable;") ∈ gTb := gT_2 205 rfl rfl
theorem gw_446 : (Jvm.Cond.lays "java/lang/Throwable" "java/lang/Throwable" "cause" "Ljava/lang/Throwable;") ∈ gTb := gT_2 206 rfl rfl
theorem gw_447 : (Jvm.Cond.lays "java/lang/IllegalArgumentException" "java/lang/Throwable" "stackTrace" "[Ljava/lang/StackTraceElement;") ∈ gTb := gT_2 207 rfl rfl
theorem gw_448 : (Jvm.Cond.lays "java/lang/Throwable" "java/lang/Throwable" "stackTrace" "[Ljava/lang/StackTraceElement;") ∈ gTb := gT_2 208 rfl rfl
theorem gw_449 : (Jvm.Cond.lays "java/lang/IllegalArgumentException" "java/lang/Throwable" "suppressedExceptions" "Ljava/util/List;") ∈ gTb := gT_2 209 rfl rfl
theorem gw_450 : (Jvm.Cond.lays "java/lang/Throwable" "java/lang/Throwable" "suppressedExceptions" "Ljava/util/List;") ∈ gTb := gT_2 210 rfl rfl
theorem gw_451 : (Jvm.Cond.lays "java/lang/IllegalArgumentException" "java/lang/Throwable" "detailMessage" "Ljava/lang/String;") ∈ gTb := gT_2 211 rfl rfl
theorem gw_452 : (Jvm.Cond.lays "java/lang/Throwable" "java/lang/Throwable" "detailMessage" "Ljava/lang/String;") ∈ gTb := gT_2 212 rfl rfl
theorem gw_453 : (Jvm.Cond.lays "java/lang/IllegalArgumentException" "java/lang/Throwable" "backtrace" "Ljava/lang/Object;") ∈ gTb := gT_2 213 rfl rfl
theorem gw_454 : (Jvm.Cond.lays "java/lang/Throwable" "java/lang/Throwable" "backtrace" "Ljava/lang/Object;") ∈ gTb := gT_2 214 rfl rfl
theorem gw_455 : (Jvm.Cond.fieldLink "java/lang/Throwable" (198 : Nat) "java/lang/Throwable" "backtrace" "Ljava/lang/Object;") ∈ gTb := gT_2 215 rfl rfl
theorem gw_457 : (Jvm.Cond.instanceMethod ({ cls := "java/lang/Throwable", name := "<init>", desc := "()V" } : Jvm.MethodName)) ∈ gTb := gT_2 217 rfl rfl
theorem gw_458 : (Jvm.Cond.code ({ cls := "java/lang/Throwable", name := "<init>", desc := "()V" } : Jvm.MethodName) prog_21_method_1_code (1 : Nat) (Option.none : Option Jvm.ClassFile.FieldType)) ∈ gTb := gT_2 218 rfl rfl
theorem gw_459 : (Jvm.Cond.methodLink "java/lang/Throwable" (1 : Nat) ({ cls := "java/lang/Object", name := "<init>", desc := "()V" } : Jvm.MethodName)) ∈ gTb := gT_2 219 rfl rfl
theorem gw_460 : (Jvm.Cond.fieldLink "java/lang/Throwable" (13 : Nat) "java/lang/Throwable" "UNASSIGNED_STACK" "[Ljava/lang/StackTraceElement;") ∈ gTb := gT_2 220 rfl rfl
theorem gw_462 : (Jvm.Cond.fieldLink "java/lang/Throwable" (20 : Nat) "java/lang/Throwable" "SUPPRESSED_SENTINEL" "Ljava/util/List;") ∈ gTb := gT_2 222 rfl rfl
theorem gw_464 : (Jvm.Cond.methodLink "java/lang/Throwable" (27 : Nat) ({ cls := "java/lang/Throwable", name := "fillInStackTrace", desc := "()Ljava/lang/Throwable;" } : Jvm.MethodName)) ∈ gTb := gT_2 224 rfl rfl
theorem gw_465 : (Jvm.Cond.instanceMethod ({ cls := "java/lang/Throwable", name := "fillInStackTrace", desc := "()Ljava/lang/Throwable;" } : Jvm.MethodName)) ∈ gTb := gT_2 225 rfl rfl
theorem gw_466 : (Jvm.Cond.sameMethod "java/lang/Throwable" "java/lang/Throwable" "fillInStackTrace" "()Ljava/lang/Throwable;") ∈ gTb := gT_2 226 rfl rfl
theorem gw_467 : (Jvm.Cond.selects "java/lang/IllegalStateException" ({ cls := "java/lang/Throwable", name := "fillInStackTrace", desc := "()Ljava/lang/Throwable;" } : Jvm.MethodName) ({ cls := "java/lang/Throwable", name := "fillInStackTrace", desc := "()Ljava/lang/Throwable;" } : Jvm.MethodName)) ∈ gTb := gT_2 227 rfl rfl
theorem gw_468 : (Jvm.Cond.selects "java/lang/IndexOutOfBoundsException" ({ cls := "java/lang/Throwable", name := "fillInStackTrace", desc := "()Ljava/lang/Throwable;" } : Jvm.MethodName) ({ cls := "java/lang/Throwable", name := "fillInStackTrace", desc := "()Ljava/lang/Throwable;" } : Jvm.MethodName)) ∈ gTb := gT_2 228 rfl rfl
theorem gw_469 : (Jvm.Cond.selects "java/lang/UnsupportedOperationException" ({ cls := "java/lang/Throwable", name := "fillInStackTrace", desc := "()Ljava/lang/Throwable;" } : Jvm.MethodName) ({ cls := "java/lang/Throwable", name := "fillInStackTrace", desc := "()Ljava/lang/Throwable;" } : Jvm.MethodName)) ∈ gTb := gT_2 229 rfl rfl
theorem gw_470 : (Jvm.Cond.selects "java/util/NoSuchElementException" ({ cls := "java/lang/Throwable", name := "fillInStackTrace", desc := "()Ljava/lang/Throwable;" } : Jvm.MethodName) ({ cls := "java/lang/Throwable", name := "fillInStackTrace", desc := "()Ljava/lang/Throwable;" } : Jvm.MethodName)) ∈ gTb := gT_2 230 rfl rfl
theorem gw_471 : (Jvm.Cond.codeSync ({ cls := "java/lang/Throwable", name := "fillInStackTrace", desc := "()Ljava/lang/Throwable;" } : Jvm.MethodName) prog_21_method_18_code (1 : Nat) (Option.some (Jvm.ClassFile.FieldType.object "java/lang/Throwable"))) ∈ gTb := gT_2 231 rfl rfl
theorem gw_472 : (Jvm.Cond.methodLink "java/lang/Throwable" (202 : Nat) ({ cls := "java/lang/Throwable", name := "fillInStackTrace", desc := "(I)Ljava/lang/Throwable;" } : Jvm.MethodName)) ∈ gTb := gT_2 232 rfl rfl
theorem gw_474 : (Jvm.Cond.instanceMethod ({ cls := "java/lang/Throwable", name := "fillInStackTrace", desc := "(I)Ljava/lang/Throwable;" } : Jvm.MethodName)) ∈ gTb := gT_2 234 rfl rfl
theorem gw_475 : (Jvm.Cond.instantiable "java/lang/Throwable" (6 : Nat)) ∈ gTb := gT_2 235 rfl rfl
theorem gw_476 : (Jvm.Cond.native ({ cls := "java/lang/Throwable", name := "fillInStackTrace", desc := "(I)Ljava/lang/Throwable;" } : Jvm.MethodName)) ∈ gTb := gT_2 236 rfl rfl
theorem gw_478 : (Jvm.Cond.methodLink "LogDisk" (93 : Nat) ({ cls := "java/lang/IllegalArgumentException", name := "<init>", desc := "(Ljava/lang/String;)V" } : Jvm.MethodName)) ∈ gTb := gT_2 238 rfl rfl
theorem gw_479 : (Jvm.Cond.instanceMethod ({ cls := "java/lang/IllegalArgumentException", name := "<init>", desc := "(Ljava/lang/String;)V" } : Jvm.MethodName)) ∈ gTb := gT_2 239 rfl rfl
theorem gw_480 : (Jvm.Cond.code ({ cls := "java/lang/IllegalArgumentException", name := "<init>", desc := "(Ljava/lang/String;)V" } : Jvm.MethodName) prog_14_method_2_code (2 : Nat) (Option.none : Option Jvm.ClassFile.FieldType)) ∈ gTb := gT_3 0 rfl rfl
theorem gw_481 : (Jvm.Cond.methodLink "java/lang/IllegalArgumentException" (7 : Nat) ({ cls := "java/lang/RuntimeException", name := "<init>", desc := "(Ljava/lang/String;)V" } : Jvm.MethodName)) ∈ gTb := gT_3 1 rfl rfl
theorem gw_482 : (Jvm.Cond.instanceMethod ({ cls := "java/lang/RuntimeException", name := "<init>", desc := "(Ljava/lang/String;)V" } : Jvm.MethodName)) ∈ gTb := gT_3 2 rfl rfl
theorem gw_483 : (Jvm.Cond.code ({ cls := "java/lang/RuntimeException", name := "<init>", desc := "(Ljava/lang/String;)V" } : Jvm.MethodName) prog_18_method_2_code (2 : Nat) (Option.none : Option Jvm.ClassFile.FieldType)) ∈ gTb := gT_3 3 rfl rfl
theorem gw_484 : (Jvm.Cond.methodLink "java/lang/RuntimeException" (7 : Nat) ({ cls := "java/lang/Exception", name := "<init>", desc := "(Ljava/lang/String;)V" } : Jvm.MethodName)) ∈ gTb := gT_3 4 rfl rfl
theorem gw_485 : (Jvm.Cond.instanceMethod ({ cls := "java/lang/Exception", name := "<init>", desc := "(Ljava/lang/String;)V" } : Jvm.MethodName)) ∈ gTb := gT_3 5 rfl rfl
theorem gw_486 : (Jvm.Cond.code ({ cls := "java/lang/Exception", name := "<init>", desc := "(Ljava/lang/String;)V" } : Jvm.MethodName) prog_13_method_2_code (2 : Nat) (Option.none : Option Jvm.ClassFile.FieldType)) ∈ gTb := gT_3 6 rfl rfl
theorem gw_487 : (Jvm.Cond.methodLink "java/lang/Exception" (7 : Nat) ({ cls := "java/lang/Throwable", name := "<init>", desc := "(Ljava/lang/String;)V" } : Jvm.MethodName)) ∈ gTb := gT_3 7 rfl rfl
theorem gw_488 : (Jvm.Cond.instanceMethod ({ cls := "java/lang/Throwable", name := "<init>", desc := "(Ljava/lang/String;)V" } : Jvm.MethodName)) ∈ gTb := gT_3 8 rfl rfl
theorem gw_489 : (Jvm.Cond.code ({ cls := "java/lang/Throwable", name := "<init>", desc := "(Ljava/lang/String;)V" } : Jvm.MethodName) prog_21_method_2_code (2 : Nat) (Option.none : Option Jvm.ClassFile.FieldType)) ∈ gTb := gT_3 9 rfl rfl
theorem gw_490 : (Jvm.Cond.fieldLink "java/lang/Throwable" (198 : Nat) "java/lang/Throwable" "backtrace" "Ljava/lang/Object;") ∈ gTb := gT_3 10 rfl rfl
theorem gw_491 : (Jvm.Cond.fieldLink "java/lang/Throwable" (31 : Nat) "java/lang/Throwable" "detailMessage" "Ljava/lang/String;") ∈ gTb := gT_3 11 rfl rfl
theorem gw_492 : (Jvm.Cond.fieldLink "java/lang/Throwable" (7 : Nat) "java/lang/Throwable" "cause" "Ljava/lang/Throwable;") ∈ gTb := gT_3 12 rfl rfl
theorem gw_493 : (Jvm.Cond.fieldLink "java/lang/Throwable" (17 : Nat) "java/lang/Throwable" "stackTrace" "[Ljava/lang/StackTraceElement;") ∈ gTb := gT_3 13 rfl rfl
theorem gw_494 : (Jvm.Cond.fieldLink "java/lang/Throwable" (24 : Nat) "java/lang/Throwable" "suppressedExceptions" "Ljava/util/List;") ∈ gTb := gT_3 14 rfl rfl
theorem gw_499 : (Jvm.Cond.lays "java/lang/IllegalArgumentException" "java/lang/Throwable" "depth" "I") ∈ gTb := gT_3 19 rfl rfl
theorem gw_503 : (Jvm.Cond.classLink "LogDisk" (99 : Nat) "java/lang/IllegalStateException") ∈ gTb := gT_3 23 rfl rfl
theorem gw_504 : (Jvm.Cond.instantiable "java/lang/IllegalStateException" (6 : Nat)) ∈ gTb := gT_3 24 rfl rfl
theorem gw_506 : (Jvm.Cond.selects "java/lang/IllegalStateException" ({ cls := "java/lang/Throwable", name := "fillInStackTrace", desc := "(I)Ljava/lang/Throwable;" } : Jvm.MethodName) ({ cls := "java/lang/Throwable", name := "fillInStackTrace", desc := "(I)Ljava/lang/Throwable;" } : Jvm.MethodName)) ∈ gTb := gT_3 26 rfl rfl
theorem gw_507 : (Jvm.Cond.lays "java/lang/IllegalStateException" "java/lang/Throwable" "cause" "Ljava/lang/Throwable;") ∈ gTb := gT_3 27 rfl rfl
theorem gw_508 : (Jvm.Cond.lays "java/lang/IllegalStateException" "java/lang/Throwable" "stackTrace" "[Ljava/lang/StackTraceElement;") ∈ gTb := gT_3 28 rfl rfl
theorem gw_509 : (Jvm.Cond.lays "java/lang/IllegalStateException" "java/lang/Throwable" "suppressedExceptions" "Ljava/util/List;") ∈ gTb := gT_3 29 rfl rfl
theorem gw_510 : (Jvm.Cond.lays "java/lang/IllegalStateException" "java/lang/Throwable" "detailMessage" "Ljava/lang/String;") ∈ gTb := gT_3 30 rfl rfl
theorem gw_511 : (Jvm.Cond.lays "java/lang/IllegalStateException" "java/lang/Throwable" "backtrace" "Ljava/lang/Object;") ∈ gTb := gT_3 31 rfl rfl
theorem gw_513 : (Jvm.Cond.methodLink "LogDisk" (103 : Nat) ({ cls := "java/lang/IllegalStateException", name := "<init>", desc := "(Ljava/lang/String;)V" } : Jvm.MethodName)) ∈ gTb := gT_3 33 rfl rfl
theorem gw_514 : (Jvm.Cond.instanceMethod ({ cls := "java/lang/IllegalStateException", name := "<init>", desc := "(Ljava/lang/String;)V" } : Jvm.MethodName)) ∈ gTb := gT_3 34 rfl rfl
theorem gw_515 : (Jvm.Cond.code ({ cls := "java/lang/IllegalStateException", name := "<init>", desc := "(Ljava/lang/String;)V" } : Jvm.MethodName) prog_15_method_2_code (2 : Nat) (Option.none : Option Jvm.ClassFile.FieldType)) ∈ gTb := gT_3 35 rfl rfl
theorem gw_516 : (Jvm.Cond.methodLink "java/lang/IllegalStateException" (7 : Nat) ({ cls := "java/lang/RuntimeException", name := "<init>", desc := "(Ljava/lang/String;)V" } : Jvm.MethodName)) ∈ gTb := gT_3 36 rfl rfl
theorem gw_517 : (Jvm.Cond.lays "java/lang/IllegalStateException" "java/lang/Throwable" "depth" "I") ∈ gTb := gT_3 37 rfl rfl
theorem gw_519 : (Jvm.Cond.methodLink "LogDiskLaw" (87 : Nat) ({ cls := "LogDiskLaw", name := "save", desc := "(LLogDisk;II[J)I" } : Jvm.MethodName)) ∈ gTb := gT_3 39 rfl rfl
theorem gw_520 : (Jvm.Cond.static ({ cls := "LogDiskLaw", name := "save", desc := "(LLogDisk;II[J)I" } : Jvm.MethodName)) ∈ gTb := gT_3 40 rfl rfl
theorem gw_521 : (Jvm.Cond.codeWith ({ cls := "LogDiskLaw", name := "save", desc := "(LLogDisk;II[J)I" } : Jvm.MethodName) method_4_code (5 : Nat) (Option.some Jvm.ClassFile.FieldType.int) [((0 : Nat), (10 : Nat), (13 : Nat), (13 : Nat)), ((0 : Nat), (10 : Nat), (17 : Nat), (21 : Nat))]) ∈ gTb := gT_3 41 rfl rfl
theorem gw_522 : (Jvm.Cond.classLink "LogDiskLaw" (21 : Nat) "java/lang/UnsupportedOperationException") ∈ gTb := gT_3 42 rfl rfl
theorem gw_523 : (Jvm.Cond.methodLink "LogDiskLaw" (17 : Nat) ({ cls := "LogDisk", name := "save", desc := "(II)I" } : Jvm.MethodName)) ∈ gTb := gT_3 43 rfl rfl
theorem gw_524 : (Jvm.Cond.instanceMethod ({ cls := "LogDisk", name := "save", desc := "(II)I" } : Jvm.MethodName)) ∈ gTb := gT_3 44 rfl rfl
theorem gw_525 : (Jvm.Cond.selects "LogDisk" ({ cls := "LogDisk", name := "save", desc := "(II)I" } : Jvm.MethodName) ({ cls := "LogDisk", name := "save", desc := "(II)I" } : Jvm.MethodName)) ∈ gTb := gT_3 45 rfl rfl
theorem gw_526 : (Jvm.Cond.code ({ cls := "LogDisk", name := "save", desc := "(II)I" } : Jvm.MethodName) prog_1_method_3_code (4 : Nat) (Option.some Jvm.ClassFile.FieldType.int)) ∈ gTb := gT_3 46 rfl rfl
theorem gw_527 : (Jvm.Cond.constant "LogDisk" (111 : Nat) (1000000 : Int32)) ∈ gTb := gT_3 47 rfl rfl
theorem gw_530 : (Jvm.Cond.methodLink "LogDisk" (116 : Nat) ({ cls := "LogDisk$Vote", name := "nextFile", desc := "()I" } : Jvm.MethodName)) ∈ gTb := gT_3 50 rfl rfl
theorem gw_531 : (Jvm.Cond.instanceMethod ({ cls := "LogDisk$Vote", name := "nextFile", desc := "()I" } : Jvm.MethodName)) ∈ gTb := gT_3 51 rfl rfl
theorem gw_532 : (Jvm.Cond.selects "LogDisk$Vote" ({ cls := "LogDisk$Vote", name := "nextFile", desc := "()I" } : Jvm.MethodName) ({ cls := "LogDisk$Vote", name := "nextFile", desc := "()I" } : Jvm.MethodName)) ∈ gTb := gT_3 52 rfl rfl
theorem gw_533 : (Jvm.Cond.code ({ cls := "LogDisk$Vote", name := "nextFile", desc := "()I" } : Jvm.MethodName) prog_10_method_4_code (1 : Nat) (Option.some Jvm.ClassFile.FieldType.int)) ∈ gTb := gT_3 53 rfl rfl
theorem gw_534 : (Jvm.Cond.methodLink "LogDisk" (120 : Nat) ({ cls := "LogDisk$DiskFile", name := "canRewrite", desc := "(I)Z" } : Jvm.MethodName)) ∈ gTb := gT_3 54 rfl rfl
theorem gw_535 : (Jvm.Cond.instanceMethod ({ cls := "LogDisk$DiskFile", name := "canRewrite", desc := "(I)Z" } : Jvm.MethodName)) ∈ gTb := gT_3 55 rfl rfl
theorem gw_536 : (Jvm.Cond.selects "LogDisk$DiskFile" ({ cls := "LogDisk$DiskFile", name := "canRewrite", desc := "(I)Z" } : Jvm.MethodName) ({ cls := "LogDisk$DiskFile", name := "canRewrite", desc := "(I)Z" } : Jvm.MethodName)) ∈ gTb := gT_3 56 rfl rfl
theorem gw_537 : (Jvm.Cond.code ({ cls := "LogDisk$DiskFile", name := "canRewrite", desc := "(I)Z" } : Jvm.MethodName) prog_3_method_5_code (5 : Nat) (Option.some Jvm.ClassFile.FieldType.boolean)) ∈ gTb := gT_3 57 rfl rfl
theorem gw_539 : (Jvm.Cond.methodLink "LogDisk$DiskFile" (39 : Nat) ({ cls := "LogDisk$DiskFile", name := "isShared", desc := "(I)Z" } : Jvm.MethodName)) ∈ gTb := gT_3 59 rfl rfl
theorem gw_540 : (Jvm.Cond.instanceMethod ({ cls := "LogDisk$DiskFile", name := "isShared", desc := "(I)Z" } : Jvm.MethodName)) ∈ gTb := gT_3 60 rfl rfl
theorem gw_541 : (Jvm.Cond.selects "LogDisk$DiskFile" ({ cls := "LogDisk$DiskFile", name := "isShared", desc := "(I)Z" } : Jvm.MethodName) ({ cls := "LogDisk$DiskFile", name := "isShared", desc := "(I)Z" } : Jvm.MethodName)) ∈ gTb := gT_3 61 rfl rfl
theorem gw_542 : (Jvm.Cond.code ({ cls := "LogDisk$DiskFile", name := "isShared", desc := "(I)Z" } : Jvm.MethodName) prog_3_method_2_code (2 : Nat) (Option.some Jvm.ClassFile.FieldType.boolean)) ∈ gTb := gT_3 62 rfl rfl
theorem gw_543 : (Jvm.Cond.classLink "LogDisk" (124 : Nat) "java/lang/UnsupportedOperationException") ∈ gTb := gT_3 63 rfl rfl
theorem gw_544 : (Jvm.Cond.instantiable "java/lang/UnsupportedOperationException" (6 : Nat)) ∈ gTb := gT_3 64 rfl rfl
theorem gw_546 : (Jvm.Cond.selects "java/lang/UnsupportedOperationException" ({ cls := "java/lang/Throwable", name := "fillInStackTrace", desc := "(I)Ljava/lang/Throwable;" } : Jvm.MethodName) ({ cls := "java/lang/Throwable", name := "fillInStackTrace", desc := "(I)Ljava/lang/Throwable;" } : Jvm.MethodName)) ∈ gTb := gT_3 66 rfl rfl
theorem gw_547 : (Jvm.Cond.lays "java/lang/UnsupportedOperationException" "java/lang/Throwable" "cause" "Ljava/lang/Throwable;") ∈ gTb := gT_3 67 rfl rfl
theorem gw_548 : (Jvm.Cond.lays "java/lang/UnsupportedOperationException" "java/lang/Throwable" "stackTrace" "[Ljava/lang/StackTraceElement;") ∈ gTb := gT_3 68 rfl rfl
theorem gw_549 : (Jvm.Cond.lays "java/lang/UnsupportedOperationException" "java/lang/Throwable" "suppressedExceptions" "Ljava/util/List;") ∈ gTb := gT_3 69 rfl rfl
theorem gw_550 : (Jvm.Cond.lays "java/lang/UnsupportedOperationException" "java/lang/Throwable" "detailMessage" "Ljava/lang/String;") ∈ gTb := gT_3 70 rfl rfl
theorem gw_551 : (Jvm.Cond.lays "java/lang/UnsupportedOperationException" "java/lang/Throwable" "backtrace" "Ljava/lang/Object;") ∈ gTb := gT_3 71 rfl rfl
theorem gw_553 : (Jvm.Cond.methodLink "LogDisk" (128 : Nat) ({ cls := "java/lang/UnsupportedOperationException", name := "<init>", desc := "(Ljava/lang/String;)V" } : Jvm.MethodName)) ∈ gTb := gT_3 73 rfl rfl
theorem gw_554 : (Jvm.Cond.instanceMethod ({ cls := "java/lang/UnsupportedOperationException", name := "<init>", desc := "(Ljava/lang/String;)V" } : Jvm.MethodName)) ∈ gTb := gT_3 74 rfl rfl
theorem gw_555 : (Jvm.Cond.code ({ cls := "java/lang/UnsupportedOperationException", name := "<init>", desc := "(Ljava/lang/String;)V" } : Jvm.MethodName) prog_22_method_2_code (2 : Nat) (Option.none : Option Jvm.ClassFile.FieldType)) ∈ gTb := gT_3 75 rfl rfl
theorem gw_556 : (Jvm.Cond.methodLink "java/lang/UnsupportedOperationException" (7 : Nat) ({ cls := "java/lang/RuntimeException", name := "<init>", desc := "(Ljava/lang/String;)V" } : Jvm.MethodName)) ∈ gTb := gT_3 76 rfl rfl
theorem gw_557 : (Jvm.Cond.lays "java/lang/UnsupportedOperationException" "java/lang/Throwable" "depth" "I") ∈ gTb := gT_3 77 rfl rfl
theorem gw_559 : (Jvm.Cond.methodLink "LogDisk" (141 : Nat) ({ cls := "LogDisk", name := "writeVote", desc := "()V" } : Jvm.MethodName)) ∈ gTb := gT_3 79 rfl rfl
theorem gw_561 : (Jvm.Cond.instanceMethod ({ cls := "LogDisk", name := "writeVote", desc := "()V" } : Jvm.MethodName)) ∈ gTb := gT_3 81 rfl rfl
theorem gw_562 : (Jvm.Cond.code ({ cls := "LogDisk", name := "writeVote", desc := "()V" } : Jvm.MethodName) prog_1_method_24_code (1 : Nat) (Option.none : Option Jvm.ClassFile.FieldType)) ∈ gTb := gT_3 82 rfl rfl
theorem gw_563 : (Jvm.Cond.methodLink "LogDisk" (298 : Nat) ({ cls := "LogDisk$Frame", name := "begin", desc := "()V" } : Jvm.MethodName)) ∈ gTb := gT_3 83 rfl rfl
theorem gw_564 : (Jvm.Cond.instanceMethod ({ cls := "LogDisk$Frame", name := "begin", desc := "()V" } : Jvm.MethodName)) ∈ gTb := gT_3 84 rfl rfl
theorem gw_565 : (Jvm.Cond.selects "LogDisk$Frame" ({ cls := "LogDisk$Frame", name := "begin", desc := "()V" } : Jvm.MethodName) ({ cls := "LogDisk$Frame", name := "begin", desc := "()V" } : Jvm.MethodName)) ∈ gTb := gT_3 85 rfl rfl
theorem gw_566 : (Jvm.Cond.code ({ cls := "LogDisk$Frame", name := "begin", desc := "()V" } : Jvm.MethodName) prog_5_method_2_code (1 : Nat) (Option.none : Option Jvm.ClassFile.FieldType)) ∈ gTb := gT_3 86 rfl rfl
theorem gw_567 : (Jvm.Cond.methodLink "LogDisk" (301 : Nat) ({ cls := "LogDisk$Frame", name := "add", desc := "(JI)V" } : Jvm.MethodName)) ∈ gTb := gT_3 87 rfl rfl
theorem gw_568 : (Jvm.Cond.instanceMethod ({ cls := "LogDisk$Frame", name := "add", desc := "(JI)V" } : Jvm.MethodName)) ∈ gTb := gT_3 88 rfl rfl
theorem gw_569 : (Jvm.Cond.selects "LogDisk$Frame" ({ cls := "LogDisk$Frame", name := "add", desc := "(JI)V" } : Jvm.MethodName) ({ cls := "LogDisk$Frame", name := "add", desc := "(JI)V" } : Jvm.MethodName)) ∈ gTb := gT_3 89 rfl rfl
theorem gw_570 : (Jvm.Cond.code ({ cls := "LogDisk$Frame", name := "add", desc := "(JI)V" } : Jvm.MethodName) prog_5_method_3_code (4 : Nat) (Option.none : Option Jvm.ClassFile.FieldType)) ∈ gTb := gT_3 90 rfl rfl
theorem gw_571 : (Jvm.Cond.methodLink "LogDisk$Frame" (19 : Nat) ({ cls := "LogDisk$Frame", name := "put", desc := "(IJI)V" } : Jvm.MethodName)) ∈ gTb := gT_3 91 rfl rfl
theorem gw_572 : (Jvm.Cond.instanceMethod ({ cls := "LogDisk$Frame", name := "put", desc := "(IJI)V" } : Jvm.MethodName)) ∈ gTb := gT_3 92 rfl rfl
theorem gw_573 : (Jvm.Cond.selects "LogDisk$Frame" ({ cls := "LogDisk$Frame", name := "put", desc := "(IJI)V" } : Jvm.MethodName) ({ cls := "LogDisk$Frame", name := "put", desc := "(IJI)V" } : Jvm.MethodName)) ∈ gTb := gT_3 93 rfl rfl
theorem gw_574 : (Jvm.Cond.code ({ cls := "LogDisk$Frame", name := "put", desc := "(IJI)V" } : Jvm.MethodName) prog_5_method_6_code (6 : Nat) (Option.none : Option Jvm.ClassFile.FieldType)) ∈ gTb := gT_3 94 rfl rfl
theorem gw_575 : (Jvm.Cond.methodLink "LogDisk" (305 : Nat) ({ cls := "LogDisk$Frame", name := "close", desc := "()V" } : Jvm.MethodName)) ∈ gTb := gT_3 95 rfl rfl
theorem gw_576 : (Jvm.Cond.instanceMethod ({ cls := "LogDisk$Frame", name := "close", desc := "()V" } : Jvm.MethodName)) ∈ gTb := gT_3 96 rfl rfl
theorem gw_577 : (Jvm.Cond.selects "LogDisk$Frame" ({ cls := "LogDisk$Frame", name := "close", desc := "()V" } : Jvm.MethodName) ({ cls := "LogDisk$Frame", name := "close", desc := "()V" } : Jvm.MethodName)) ∈ gTb := gT_3 97 rfl rfl
theorem gw_578 : (Jvm.Cond.code ({ cls := "LogDisk$Frame", name := "close", desc := "()V" } : Jvm.MethodName) prog_5_method_5_code (3 : Nat) (Option.none : Option Jvm.ClassFile.FieldType)) ∈ gTb := gT_3 98 rfl rfl
theorem gw_580 : (Jvm.Cond.methodLink "LogDisk" (311 : Nat) ({ cls := "LogDisk$DiskFile", name := "write", desc := "([BI)V" } : Jvm.MethodName)) ∈ gTb := gT_3 100 rfl rfl
theorem gw_581 : (Jvm.Cond.instanceMethod ({ cls := "LogDisk$DiskFile", name := "write", desc := "([BI)V" } : Jvm.MethodName)) ∈ gTb := gT_3 101 rfl rfl
theorem gw_582 : (Jvm.Cond.selects "LogDisk$DiskFile" ({ cls := "LogDisk$DiskFile", name := "write", desc := "([BI)V" } : Jvm.MethodName) ({ cls := "LogDisk$DiskFile", name := "write", desc := "([BI)V" } : Jvm.MethodName)) ∈ gTb := gT_3 102 rfl rfl
theorem gw_583 : (Jvm.Cond.code ({ cls := "LogDisk$DiskFile", name := "write", desc := "([BI)V" } : Jvm.MethodName) prog_3_method_6_code (8 : Nat) (Option.none : Option Jvm.ClassFile.FieldType)) ∈ gTb := gT_3 103 rfl rfl
theorem gw_584 : (Jvm.Cond.methodLink "LogDisk$DiskFile" (43 : Nat) ({ cls := "LogDisk$DiskFile", name := "mustCopyLastPage", desc := "()Z" } : Jvm.MethodName)) ∈ gTb := gT_3 104 rfl rfl
theorem gw_585 : (Jvm.Cond.instanceMethod ({ cls := "LogDisk$DiskFile", name := "mustCopyLastPage", desc := "()Z" } : Jvm.MethodName)) ∈ gTb := gT_3 105 rfl rfl
theorem gw_586 : (Jvm.Cond.selects "LogDisk$DiskFile" ({ cls := "LogDisk$DiskFile", name := "mustCopyLastPage", desc := "()Z" } : Jvm.MethodName) ({ cls := "LogDisk$DiskFile", name := "mustCopyLastPage", desc := "()Z" } : Jvm.MethodName)) ∈ gTb := gT_3 106 rfl rfl
theorem gw_587 : (Jvm.Cond.code ({ cls := "LogDisk$DiskFile", name := "mustCopyLastPage", desc := "()Z" } : Jvm.MethodName) prog_3_method_3_code (1 : Nat) (Option.some Jvm.ClassFile.FieldType.boolean)) ∈ gTb := gT_3 107 rfl rfl
theorem gw_588 : (Jvm.Cond.methodLink "LogDisk$DiskFile" (52 : Nat) ({ cls := "LogDisk$DiskFile", name := "copyLastPage", desc := "()V" } : Jvm.MethodName)) ∈ gTb := gT_3 108 rfl rfl
theorem gw_589 : (Jvm.Cond.instanceMethod ({ cls := "LogDisk$DiskFile", name := "copyLastPage", desc := "()V" } : Jvm.MethodName)) ∈ gTb := gT_3 109 rfl rfl
theorem gw_590 : (Jvm.Cond.selects "LogDisk$DiskFile" ({ cls := "LogDisk$DiskFile", name := "copyLastPage", desc := "()V" } : Jvm.MethodName) ({ cls := "LogDisk$DiskFile", name := "copyLastPage", desc := "()V" } : Jvm.MethodName)) ∈ gTb := gT_3 110 rfl rfl
theorem gw_591 : (Jvm.Cond.code ({ cls := "LogDisk$DiskFile", name := "copyLastPage", desc := "()V" } : Jvm.MethodName) prog_3_method_7_code (4 : Nat) (Option.none : Option Jvm.ClassFile.FieldType)) ∈ gTb := gT_3 111 rfl rfl
theorem gw_592 : (Jvm.Cond.methodLink "LogDisk$DiskFile" (59 : Nat) ({ cls := "LogDisk$Pages", name := "seize", desc := "()I" } : Jvm.MethodName)) ∈ gTb := gT_3 112 rfl rfl
theorem gw_593 : (Jvm.Cond.instanceMethod ({ cls := "LogDisk$Pages", name := "seize", desc := "()I" } : Jvm.MethodName)) ∈ gTb := gT_3 113 rfl rfl
theorem gw_594 : (Jvm.Cond.selects "LogDisk$Pages" ({ cls := "LogDisk$Pages", name := "seize", desc := "()I" } : Jvm.MethodName) ({ cls := "LogDisk$Pages", name := "seize", desc := "()I" } : Jvm.MethodName)) ∈ gTb := gT_3 114 rfl rfl
theorem gw_595 : (Jvm.Cond.code ({ cls := "LogDisk$Pages", name := "seize", desc := "()I" } : Jvm.MethodName) prog_6_method_3_code (2 : Nat) (Option.some Jvm.ClassFile.FieldType.int)) ∈ gTb := gT_3 115 rfl rfl
theorem gw_596 : (Jvm.Cond.methodLink "LogDisk$DiskFile" (73 : Nat) ({ cls := "java/lang/System", name := "arraycopy", desc := "(Ljava/lang/Object;ILjava/lang/Object;II)V" } : Jvm.MethodName)) ∈ gTb := gT_3 116 rfl rfl
theorem gw_597 : (Jvm.Cond.static ({ cls := "java/lang/System", name := "arraycopy", desc := "(Ljava/lang/Object;ILjava/lang/Object;II)V" } : Jvm.MethodName)) ∈ gTb := gT_3 117 rfl rfl
theorem gw_598 : (Jvm.Cond.native ({ cls := "java/lang/System", name := "arraycopy", desc := "(Ljava/lang/Object;ILjava/lang/Object;II)V" } : Jvm.MethodName)) ∈ gTb := gT_3 118 rfl rfl
theorem gw_599 : (Jvm.Cond.methodLink "LogDisk$DiskFile" (79 : Nat) ({ cls := "LogDisk$Pages", name := "giveUp", desc := "(I)V" } : Jvm.MethodName)) ∈ gTb := gT_3 119 rfl rfl
theorem gw_600 : (Jvm.Cond.methodLink "LogDiskLaw" (91 : Nat) ({ cls := "LogDiskLaw", name := "append", desc := "(LLogDisk;II[J)I" } : Jvm.MethodName)) ∈ gTb := gT_3 120 rfl rfl
theorem gw_601 : (Jvm.Cond.static ({ cls := "LogDiskLaw", name := "append", desc := "(LLogDisk;II[J)I" } : Jvm.MethodName)) ∈ gTb := gT_3 121 rfl rfl
theorem gw_602 : (Jvm.Cond.codeWith ({ cls := "LogDiskLaw", name := "append", desc := "(LLogDisk;II[J)I" } : Jvm.MethodName) method_5_code (5 : Nat) (Option.some Jvm.ClassFile.FieldType.int) [((0 : Nat), (10 : Nat), (13 : Nat), (13 : Nat)), ((0 : Nat), (10 : Nat), (17 : Nat), (15 : Nat)), ((0 : Nat), (10 : Nat), (21 : Nat), (21 : Nat))]) ∈ gTb := gT_3 122 rfl rfl
theorem gw_603 : (Jvm.Cond.methodLink "LogDiskLaw" (23 : Nat) ({ cls := "LogDisk", name := "append", desc := "(II)I" } : Jvm.MethodName)) ∈ gTb := gT_3 123 rfl rfl
theorem gw_604 : (Jvm.Cond.instanceMethod ({ cls := "LogDisk", name := "append", desc := "(II)I" } : Jvm.MethodName)) ∈ gTb := gT_3 124 rfl rfl
theorem gw_605 : (Jvm.Cond.selects "LogDisk" ({ cls := "LogDisk", name := "append", desc := "(II)I" } : Jvm.MethodName) ({ cls := "LogDisk", name := "append", desc := "(II)I" } : Jvm.MethodName)) ∈ gTb := gT_3 125 rfl rfl
theorem gw_606 : (Jvm.Cond.code ({ cls := "LogDisk", name := "append", desc := "(II)I" } : Jvm.MethodName) prog_1_method_4_code (7 : Nat) (Option.some Jvm.ClassFile.FieldType.int)) ∈ gTb := gT_3 126 rfl rfl
theorem gw_607 : (Jvm.Cond.methodLink "LogDisk" (147 : Nat) ({ cls := "LogDisk$Tape", name := "handOver", desc := "()I" } : Jvm.MethodName)) ∈ gTb := gT_3 127 rfl rfl
theorem gw_608 : (Jvm.Cond.instanceMethod ({ cls := "LogDisk$Tape", name := "handOver", desc := "()I" } : Jvm.MethodName)) ∈ gTb := gT_3 128 rfl rfl
theorem gw_609 : (Jvm.Cond.selects "LogDisk$Tape" ({ cls := "LogDisk$Tape", name := "handOver", desc := "()I" } : Jvm.MethodName) ({ cls := "LogDisk$Tape", name := "handOver", desc := "()I" } : Jvm.MethodName)) ∈ gTb := gT_3 129 rfl rfl
theorem gw_610 : (Jvm.Cond.code ({ cls := "LogDisk$Tape", name := "handOver", desc := "()I" } : Jvm.MethodName) prog_9_method_2_code (2 : Nat) (Option.some Jvm.ClassFile.FieldType.int)) ∈ gTb := gT_3 130 rfl rfl
theorem gw_611 : (Jvm.Cond.methodLink "LogDisk" (153 : Nat) ({ cls := "LogDisk", name := "termAt", desc := "(I)I" } : Jvm.MethodName)) ∈ gTb := gT_3 131 rfl rfl
theorem gw_613 : (Jvm.Cond.instanceMethod ({ cls := "LogDisk", name := "termAt", desc := "(I)I" } : Jvm.MethodName)) ∈ gTb := gT_3 133 rfl rfl
theorem gw_614 : (Jvm.Cond.code ({ cls := "LogDisk", name := "termAt", desc := "(I)I" } : Jvm.MethodName) prog_1_method_20_code (2 : Nat) (Option.some Jvm.ClassFile.FieldType.int)) ∈ gTb := gT_3 134 rfl rfl
theorem gw_615 : (Jvm.Cond.methodLink "LogDisk" (186 : Nat) ({ cls := "LogDisk", name := "isInLog", desc := "(I)Z" } : Jvm.MethodName)) ∈ gTb := gT_3 135 rfl rfl
theorem gw_617 : (Jvm.Cond.instanceMethod ({ cls := "LogDisk", name := "isInLog", desc := "(I)Z" } : Jvm.MethodName)) ∈ gTb := gT_3 137 rfl rfl
theorem gw_618 : (Jvm.Cond.code ({ cls := "LogDisk", name := "isInLog", desc := "(I)Z" } : Jvm.MethodName) prog_1_method_19_code (2 : Nat) (Option.some Jvm.ClassFile.FieldType.boolean)) ∈ gTb := gT_3 138 rfl rfl
theorem gw_622 : (Jvm.Cond.methodLink "LogDisk" (166 : Nat) ({ cls := "LogDisk", name := "needsNewSegment", desc := "()Z" } : Jvm.MethodName)) ∈ gTb := gT_3 142 rfl rfl
theorem gw_624 : (Jvm.Cond.instanceMethod ({ cls := "LogDisk", name := "needsNewSegment", desc := "()Z" } : Jvm.MethodName)) ∈ gTb := gT_3 144 rfl rfl
theorem gw_625 : (Jvm.Cond.code ({ cls := "LogDisk", name := "needsNewSegment", desc := "()Z" } : Jvm.MethodName) prog_1_method_22_code (1 : Nat) (Option.some Jvm.ClassFile.FieldType.boolean)) ∈ gTb := gT_3 145 rfl rfl
theorem gw_626 : (Jvm.Cond.methodLink "LogDisk" (173 : Nat) ({ cls := "LogDisk$Segments", name := "lastFile", desc := "()I" } : Jvm.MethodName)) ∈ gTb := gT_3 146 rfl rfl
theorem gw_627 : (Jvm.Cond.instanceMethod ({ cls := "LogDisk$Segments", name := "lastFile", desc := "()I" } : Jvm.MethodName)) ∈ gTb := gT_3 147 rfl rfl
theorem gw_628 : (Jvm.Cond.selects "LogDisk$Segments" ({ cls := "LogDisk$Segments", name := "lastFile", desc := "()I" } : Jvm.MethodName) ({ cls := "LogDisk$Segments", name := "lastFile", desc := "()I" } : Jvm.MethodName)) ∈ gTb := gT_3 148 rfl rfl
theorem gw_629 : (Jvm.Cond.code ({ cls := "LogDisk$Segments", name := "lastFile", desc := "()I" } : Jvm.MethodName) prog_7_method_3_code (1 : Nat) (Option.some Jvm.ClassFile.FieldType.int)) ∈ gTb := gT_3 149 rfl rfl
theorem gw_630 : (Jvm.Cond.methodLink "LogDisk" (170 : Nat) ({ cls := "LogDisk", name := "lowestFreeFile", desc := "()I" } : Jvm.MethodName)) ∈ gTb := gT_3 150 rfl rfl
theorem gw_632 : (Jvm.Cond.instanceMethod ({ cls := "LogDisk", name := "lowestFreeFile", desc := "()I" } : Jvm.MethodName)) ∈ gTb := gT_3 152 rfl rfl
theorem gw_633 : (Jvm.Cond.code ({ cls := "LogDisk", name := "lowestFreeFile", desc := "()I" } : Jvm.MethodName) prog_1_method_23_code (2 : Nat) (Option.some Jvm.ClassFile.FieldType.int)) ∈ gTb := gT_3 153 rfl rfl
theorem gw_634 : (Jvm.Cond.methodLink "LogDisk" (176 : Nat) ({ cls := "LogDisk$DiskFile", name := "canExtend", desc := "(I)Z" } : Jvm.MethodName)) ∈ gTb := gT_3 154 rfl rfl
theorem gw_635 : (Jvm.Cond.instanceMethod ({ cls := "LogDisk$DiskFile", name := "canExtend", desc := "(I)Z" } : Jvm.MethodName)) ∈ gTb := gT_3 155 rfl rfl
theorem gw_636 : (Jvm.Cond.selects "LogDisk$DiskFile" ({ cls := "LogDisk$DiskFile", name := "canExtend", desc := "(I)Z" } : Jvm.MethodName) ({ cls := "LogDisk$DiskFile", name := "canExtend", desc := "(I)Z" } : Jvm.MethodName)) ∈ gTb := gT_3 156 rfl rfl
theorem gw_637 : (Jvm.Cond.code ({ cls := "LogDisk$DiskFile", name := "canExtend", desc := "(I)Z" } : Jvm.MethodName) prog_3_method_4_code (4 : Nat) (Option.some Jvm.ClassFile.FieldType.boolean)) ∈ gTb := gT_3 157 rfl rfl
theorem gw_638 : (Jvm.Cond.methodLink "LogDisk" (179 : Nat) ({ cls := "LogDisk", name := "openSegment", desc := "(I)V" } : Jvm.MethodName)) ∈ gTb := gT_3 158 rfl rfl
theorem gw_640 : (Jvm.Cond.instanceMethod ({ cls := "LogDisk", name := "openSegment", desc := "(I)V" } : Jvm.MethodName)) ∈ gTb := gT_3 160 rfl rfl
theorem gw_641 : (Jvm.Cond.code ({ cls := "LogDisk", name := "openSegment", desc := "(I)V" } : Jvm.MethodName) prog_1_method_25_code (2 : Nat) (Option.none : Option Jvm.ClassFile.FieldType)) ∈ gTb := gT_3 161 rfl rfl
theorem gw_642 : (Jvm.Cond.methodLink "LogDisk" (182 : Nat) ({ cls := "LogDisk", name := "writeEntry", desc := "(IIII)V" } : Jvm.MethodName)) ∈ gTb := gT_3 162 rfl rfl
theorem gw_644 : (Jvm.Cond.instanceMethod ({ cls := "LogDisk", name := "writeEntry", desc := "(IIII)V" } : Jvm.MethodName)) ∈ gTb := gT_3 164 rfl rfl
theorem gw_645 : (Jvm.Cond.code ({ cls := "LogDisk", name := "writeEntry", desc := "(IIII)V" } : Jvm.MethodName) prog_1_method_26_code (5 : Nat) (Option.none : Option Jvm.ClassFile.FieldType)) ∈ gTb := gT_3 165 rfl rfl
theorem gw_646 : (Jvm.Cond.methodLink "LogDisk" (321 : Nat) ({ cls := "LogDisk$Frame", name := "addBytes", desc := "([BI)V" } : Jvm.MethodName)) ∈ gTb := gT_3 166 rfl rfl
theorem gw_647 : (Jvm.Cond.instanceMethod ({ cls := "LogDisk$Frame", name := "addBytes", desc := "([BI)V" } : Jvm.MethodName)) ∈ gTb := gT_3 167 rfl rfl
theorem gw_648 : (Jvm.Cond.selects "LogDisk$Frame" ({ cls := "LogDisk$Frame", name := "addBytes", desc := "([BI)V" } : Jvm.MethodName) ({ cls := "LogDisk$Frame", name := "addBytes", desc := "([BI)V" } : Jvm.MethodName)) ∈ gTb := gT_3 168 rfl rfl
theorem gw_649 : (Jvm.Cond.code ({ cls := "LogDisk$Frame", name := "addBytes", desc := "([BI)V" } : Jvm.MethodName) prog_5_method_4_code (3 : Nat) (Option.none : Option Jvm.ClassFile.FieldType)) ∈ gTb := gT_3 169 rfl rfl
theorem gw_650 : (Jvm.Cond.methodLink "LogDisk$Frame" (23 : Nat) ({ cls := "java/lang/System", name := "arraycopy", desc := "(Ljava/lang/Object;ILjava/lang/Object;II)V" } : Jvm.MethodName)) ∈ gTb := gT_3 170 rfl rfl
theorem gw_651 : (Jvm.Cond.methodLink "LogDiskLaw" (94 : Nat) ({ cls := "LogDiskLaw", name := "cutFrom", desc := "(LLogDisk;I[J)I" } : Jvm.MethodName)) ∈ gTb := gT_3 171 rfl rfl
theorem gw_652 : (Jvm.Cond.static ({ cls := "LogDiskLaw", name := "cutFrom", desc := "(LLogDisk;I[J)I" } : Jvm.MethodName)) ∈ gTb := gT_3 172 rfl rfl
theorem gw_653 : (Jvm.Cond.codeWith ({ cls := "LogDiskLaw", name := "cutFrom", desc := "(LLogDisk;I[J)I" } : Jvm.MethodName) method_6_code (4 : Nat) (Option.some Jvm.ClassFile.FieldType.int) [((0 : Nat), (9 : Nat), (12 : Nat), (30 : Nat))]) ∈ gTb := gT_3 173 rfl rfl
theorem gw_654 : (Jvm.Cond.classLink "LogDiskLaw" (30 : Nat) "java/lang/IndexOutOfBoundsException") ∈ gTb := gT_3 174 rfl rfl
theorem gw_655 : (Jvm.Cond.methodLink "LogDiskLaw" (26 : Nat) ({ cls := "LogDisk", name := "cutFrom", desc := "(I)I" } : Jvm.MethodName)) ∈ gTb := gT_3 175 rfl rfl
theorem gw_656 : (Jvm.Cond.instanceMethod ({ cls := "LogDisk", name := "cutFrom", desc := "(I)I" } : Jvm.MethodName)) ∈ gTb := gT_3 176 rfl rfl
theorem gw_657 : (Jvm.Cond.selects "LogDisk" ({ cls := "LogDisk", name := "cutFrom", desc := "(I)I" } : Jvm.MethodName) ({ cls := "LogDisk", name := "cutFrom", desc := "(I)I" } : Jvm.MethodName)) ∈ gTb := gT_3 177 rfl rfl
theorem gw_658 : (Jvm.Cond.code ({ cls := "LogDisk", name := "cutFrom", desc := "(I)I" } : Jvm.MethodName) prog_1_method_5_code (4 : Nat) (Option.some Jvm.ClassFile.FieldType.int)) ∈ gTb := gT_3 178 rfl rfl
theorem gw_659 : (Jvm.Cond.classLink "LogDisk" (189 : Nat) "java/lang/IndexOutOfBoundsException") ∈ gTb := gT_3 179 rfl rfl
theorem gw_660 : (Jvm.Cond.instantiable "java/lang/IndexOutOfBoundsException" (6 : Nat)) ∈ gTb := gT_3 180 rfl rfl
theorem gw_662 : (Jvm.Cond.selects "java/lang/IndexOutOfBoundsException" ({ cls := "java/lang/Throwable", name := "fillInStackTrace", desc := "(I)Ljava/lang/Throwable;" } : Jvm.MethodName) ({ cls := "java/lang/Throwable", name := "fillInStackTrace", desc := "(I)Ljava/lang/Throwable;" } : Jvm.MethodName)) ∈ gTb := gT_3 182 rfl rfl
theorem gw_663 : (Jvm.Cond.lays "java/lang/IndexOutOfBoundsException" "java/lang/Throwable" "cause" "Ljava/lang/Throwable;") ∈ gTb := gT_3 183 rfl rfl
theorem gw_664 : (Jvm.Cond.lays "java/lang/IndexOutOfBoundsException" "java/lang/Throwable" "stackTrace" "[Ljava/lang/StackTraceElement;") ∈ gTb := gT_3 184 rfl rfl
theorem gw_665 : (Jvm.Cond.lays "java/lang/IndexOutOfBoundsException" "java/lang/Throwable" "suppressedExceptions" "Ljava/util/List;") ∈ gTb := gT_3 185 rfl rfl
theorem gw_666 : (Jvm.Cond.lays "java/lang/IndexOutOfBoundsException" "java/lang/Throwable" "detailMessage" "Ljava/lang/String;") ∈ gTb := gT_3 186 rfl rfl
theorem gw_667 : (Jvm.Cond.lays "java/lang/IndexOutOfBoundsException" "java/lang/Throwable" "backtrace" "Ljava/lang/Object;") ∈ gTb := gT_3 187 rfl rfl
theorem gw_669 : (Jvm.Cond.methodLink "LogDisk" (193 : Nat) ({ cls := "java/lang/IndexOutOfBoundsException", name := "<init>", desc := "(Ljava/lang/String;)V" } : Jvm.MethodName)) ∈ gTb := gT_3 189 rfl rfl
theorem gw_670 : (Jvm.Cond.instanceMethod ({ cls := "java/lang/IndexOutOfBoundsException", name := "<init>", desc := "(Ljava/lang/String;)V" } : Jvm.MethodName)) ∈ gTb := gT_3 190 rfl rfl
theorem gw_671 : (Jvm.Cond.code ({ cls := "java/lang/IndexOutOfBoundsException", name := "<init>", desc := "(Ljava/lang/String;)V" } : Jvm.MethodName) prog_16_method_2_code (2 : Nat) (Option.none : Option Jvm.ClassFile.FieldType)) ∈ gTb := gT_3 191 rfl rfl
theorem gw_672 : (Jvm.Cond.methodLink "java/lang/IndexOutOfBoundsException" (7 : Nat) ({ cls := "java/lang/RuntimeException", name := "<init>", desc := "(Ljava/lang/String;)V" } : Jvm.MethodName)) ∈ gTb := gT_3 192 rfl rfl
theorem gw_673 : (Jvm.Cond.lays "java/lang/IndexOutOfBoundsException" "java/lang/Throwable" "depth" "I") ∈ gTb := gT_3 193 rfl rfl
theorem gw_675 : (Jvm.Cond.methodLink "LogDiskLaw" (98 : Nat) ({ cls := "LogDiskLaw", name := "compact", desc := "(LLogDisk;II[J)I" } : Jvm.MethodName)) ∈ gTb := gT_3 195 rfl rfl
theorem gw_676 : (Jvm.Cond.static ({ cls := "LogDiskLaw", name := "compact", desc := "(LLogDisk;II[J)I" } : Jvm.MethodName)) ∈ gTb := gT_3 196 rfl rfl
theorem gw_677 : (Jvm.Cond.codeWith ({ cls := "LogDiskLaw", name := "compact", desc := "(LLogDisk;II[J)I" } : Jvm.MethodName) method_7_code (5 : Nat) (Option.some Jvm.ClassFile.FieldType.int) [((0 : Nat), (10 : Nat), (13 : Nat), (30 : Nat)), ((0 : Nat), (10 : Nat), (17 : Nat), (21 : Nat))]) ∈ gTb := gT_3 197 rfl rfl
theorem gw_678 : (Jvm.Cond.methodLink "LogDiskLaw" (32 : Nat) ({ cls := "LogDisk", name := "compact", desc := "(II)I" } : Jvm.MethodName)) ∈ gTb := gT_3 198 rfl rfl
theorem gw_679 : (Jvm.Cond.instanceMethod ({ cls := "LogDisk", name := "compact", desc := "(II)I" } : Jvm.MethodName)) ∈ gTb := gT_3 199 rfl rfl
theorem gw_680 : (Jvm.Cond.selects "LogDisk" ({ cls := "LogDisk", name := "compact", desc := "(II)I" } : Jvm.MethodName) ({ cls := "LogDisk", name := "compact", desc := "(II)I" } : Jvm.MethodName)) ∈ gTb := gT_3 200 rfl rfl
theorem gw_681 : (Jvm.Cond.code ({ cls := "LogDisk", name := "compact", desc := "(II)I" } : Jvm.MethodName) prog_1_method_6_code (5 : Nat) (Option.some Jvm.ClassFile.FieldType.int)) ∈ gTb := gT_3 201 rfl rfl
theorem gw_682 : (Jvm.Cond.methodLink "LogDisk" (216 : Nat) ({ cls := "LogDisk$Snapshot", name := "nextFile", desc := "()I" } : Jvm.MethodName)) ∈ gTb := gT_3 202 rfl rfl
theorem gw_683 : (Jvm.Cond.instanceMethod ({ cls := "LogDisk$Snapshot", name := "nextFile", desc := "()I" } : Jvm.MethodName)) ∈ gTb := gT_3 203 rfl rfl
theorem gw_684 : (Jvm.Cond.selects "LogDisk$Snapshot" ({ cls := "LogDisk$Snapshot", name := "nextFile", desc := "()I" } : Jvm.MethodName) ({ cls := "LogDisk$Snapshot", name := "nextFile", desc := "()I" } : Jvm.MethodName)) ∈ gTb := gT_3 204 rfl rfl
theorem gw_685 : (Jvm.Cond.code ({ cls := "LogDisk$Snapshot", name := "nextFile", desc := "()I" } : Jvm.MethodName) prog_8_method_3_code (1 : Nat) (Option.some Jvm.ClassFile.FieldType.int)) ∈ gTb := gT_3 205 rfl rfl
theorem gw_686 : (Jvm.Cond.methodLink "LogDisk" (217 : Nat) ({ cls := "LogDisk", name := "moveBase", desc := "(IIII)V" } : Jvm.MethodName)) ∈ gTb := gT_3 206 rfl rfl
theorem gw_688 : (Jvm.Cond.instanceMethod ({ cls := "LogDisk", name := "moveBase", desc := "(IIII)V" } : Jvm.MethodName)) ∈ gTb := gT_3 208 rfl rfl
theorem gw_689 : (Jvm.Cond.code ({ cls := "LogDisk", name := "moveBase", desc := "(IIII)V" } : Jvm.MethodName) prog_1_method_27_code (6 : Nat) (Option.none : Option Jvm.ClassFile.FieldType)) ∈ gTb := gT_3 209 rfl rfl
theorem gw_690 : (Jvm.Cond.methodLink "LogDisk" (329 : Nat) ({ cls := "LogDisk", name := "dropSegments", desc := "()V" } : Jvm.MethodName)) ∈ gTb := gT_3 210 rfl rfl
theorem gw_692 : (Jvm.Cond.instanceMethod ({ cls := "LogDisk", name := "dropSegments", desc := "()V" } : Jvm.MethodName)) ∈ gTb := gT_3 212 rfl rfl
theorem gw_693 : (Jvm.Cond.code ({ cls := "LogDisk", name := "dropSegments", desc := "()V" } : Jvm.MethodName) prog_1_method_28_code (3 : Nat) (Option.none : Option Jvm.ClassFile.FieldType)) ∈ gTb := gT_3 213 rfl rfl
theorem gw_694 : (Jvm.Cond.methodLink "LogDisk" (332 : Nat) ({ cls := "LogDisk$Segments", name := "endedBy", desc := "(I)I" } : Jvm.MethodName)) ∈ gTb := gT_3 214 rfl rfl
theorem gw_695 : (Jvm.Cond.instanceMethod ({ cls := "LogDisk$Segments", name := "endedBy", desc := "(I)I" } : Jvm.MethodName)) ∈ gTb := gT_3 215 rfl rfl
theorem gw_696 : (Jvm.Cond.selects "LogDisk$Segments" ({ cls := "LogDisk$Segments", name := "endedBy", desc := "(I)I" } : Jvm.MethodName) ({ cls := "LogDisk$Segments", name := "endedBy", desc := "(I)I" } : Jvm.MethodName)) ∈ gTb := gT_3 216 rfl rfl
theorem gw_697 : (Jvm.Cond.code ({ cls := "LogDisk$Segments", name := "endedBy", desc := "(I)I" } : Jvm.MethodName) prog_7_method_5_code (4 : Nat) (Option.some Jvm.ClassFile.FieldType.int)) ∈ gTb := gT_3 217 rfl rfl
theorem gw_698 : (Jvm.Cond.methodLink "LogDisk" (335 : Nat) ({ cls := "LogDisk$Segments", name := "dropFront", desc := "(I)V" } : Jvm.MethodName)) ∈ gTb := gT_3 218 rfl rfl
theorem gw_699 : (Jvm.Cond.instanceMethod ({ cls := "LogDisk$Segments", name := "dropFront", desc := "(I)V" } : Jvm.MethodName)) ∈ gTb := gT_3 219 rfl rfl
theorem gw_700 : (Jvm.Cond.selects "LogDisk$Segments" ({ cls := "LogDisk$Segments", name := "dropFront", desc := "(I)V" } : Jvm.MethodName) ({ cls := "LogDisk$Segments", name := "dropFront", desc := "(I)V" } : Jvm.MethodName)) ∈ gTb := gT_3 220 rfl rfl
theorem gw_701 : (Jvm.Cond.code ({ cls := "LogDisk$Segments", name := "dropFront", desc := "(I)V" } : Jvm.MethodName) prog_7_method_6_code (3 : Nat) (Option.none : Option Jvm.ClassFile.FieldType)) ∈ gTb := gT_3 221 rfl rfl
theorem gw_702 : (Jvm.Cond.methodLink "LogDiskLaw" (101 : Nat) ({ cls := "LogDiskLaw", name := "take", desc := "(LLogDisk;III[J)I" } : Jvm.MethodName)) ∈ gTb := gT_3 222 rfl rfl
theorem gw_703 : (Jvm.Cond.static ({ cls := "LogDiskLaw", name := "take", desc := "(LLogDisk;III[J)I" } : Jvm.MethodName)) ∈ gTb := gT_3 223 rfl rfl
theorem gw_704 : (Jvm.Cond.codeWith ({ cls := "LogDiskLaw", name := "take", desc := "(LLogDisk;III[J)I" } : Jvm.MethodName) method_8_code (6 : Nat) (Option.some Jvm.ClassFile.FieldType.int) [((0 : Nat), (12 : Nat), (15 : Nat), (13 : Nat)), ((0 : Nat), (12 : Nat), (19 : Nat), (21 : Nat))]) ∈ gTb := gT_3 224 rfl rfl
theorem gw_705 : (Jvm.Cond.methodLink "LogDiskLaw" (35 : Nat) ({ cls := "LogDisk", name := "take", desc := "(III)I" } : Jvm.MethodName)) ∈ gTb := gT_3 225 rfl rfl
theorem gw_706 : (Jvm.Cond.instanceMethod ({ cls := "LogDisk", name := "take", desc := "(III)I" } : Jvm.MethodName)) ∈ gTb := gT_3 226 rfl rfl
theorem gw_707 : (Jvm.Cond.selects "LogDisk" ({ cls := "LogDisk", name := "take", desc := "(III)I" } : Jvm.MethodName) ({ cls := "LogDisk", name := "take", desc := "(III)I" } : Jvm.MethodName)) ∈ gTb := gT_3 227 rfl rfl
theorem gw_708 : (Jvm.Cond.code ({ cls := "LogDisk", name := "take", desc := "(III)I" } : Jvm.MethodName) prog_1_method_7_code (5 : Nat) (Option.some Jvm.ClassFile.FieldType.int)) ∈ gTb := gT_3 228 rfl rfl
theorem gw_711 : (Jvm.Cond.methodLink "LogDiskLaw" (110 : Nat) ({ cls := "LogDiskLaw", name := "keep", desc := "(LLogDisk;II)I" } : Jvm.MethodName)) ∈ gTb := gT_3 231 rfl rfl
theorem gw_712 : (Jvm.Cond.static ({ cls := "LogDiskLaw", name := "keep", desc := "(LLogDisk;II)I" } : Jvm.MethodName)) ∈ gTb := gT_3 232 rfl rfl
theorem gw_713 : (Jvm.Cond.codeWith ({ cls := "LogDiskLaw", name := "keep", desc := "(LLogDisk;II)I" } : Jvm.MethodName) method_9_code (4 : Nat) (Option.some Jvm.ClassFile.FieldType.int) [((0 : Nat), (6 : Nat), (9 : Nat), (30 : Nat)), ((0 : Nat), (6 : Nat), (12 : Nat), (13 : Nat))]) ∈ gTb := gT_3 233 rfl rfl
theorem gw_714 : (Jvm.Cond.methodLink "LogDiskLaw" (39 : Nat) ({ cls := "LogDisk", name := "keep", desc := "(II)V" } : Jvm.MethodName)) ∈ gTb := gT_3 234 rfl rfl
theorem gw_715 : (Jvm.Cond.instanceMethod ({ cls := "LogDisk", name := "keep", desc := "(II)V" } : Jvm.MethodName)) ∈ gTb := gT_3 235 rfl rfl
theorem gw_716 : (Jvm.Cond.selects "LogDisk" ({ cls := "LogDisk", name := "keep", desc := "(II)V" } : Jvm.MethodName) ({ cls := "LogDisk", name := "keep", desc := "(II)V" } : Jvm.MethodName)) ∈ gTb := gT_3 236 rfl rfl
theorem gw_717 : (Jvm.Cond.code ({ cls := "LogDisk", name := "keep", desc := "(II)V" } : Jvm.MethodName) prog_1_method_9_code (3 : Nat) (Option.none : Option Jvm.ClassFile.FieldType)) ∈ gTb := gT_3 237 rfl rfl
theorem gw_718 : (Jvm.Cond.methodLink "LogDisk" (227 : Nat) ({ cls := "LogDisk", name := "isFile", desc := "(I)Z" } : Jvm.MethodName)) ∈ gTb := gT_3 238 rfl rfl
theorem gw_719 : (Jvm.Cond.static ({ cls := "LogDisk", name := "isFile", desc := "(I)Z" } : Jvm.MethodName)) ∈ gTb := gT_3 239 rfl rfl
theorem gw_720 : (Jvm.Cond.code ({ cls := "LogDisk", name := "isFile", desc := "(I)Z" } : Jvm.MethodName) prog_1_method_18_code (1 : Nat) (Option.some Jvm.ClassFile.FieldType.boolean)) ∈ gTb := gT_4 0 rfl rfl
theorem gw_723 : (Jvm.Cond.methodLink "LogDiskLaw" (119 : Nat) ({ cls := "LogDiskLaw", name := "state", desc := "(LLogDisk;I[J)I" } : Jvm.MethodName)) ∈ gTb := gT_4 3 rfl rfl
theorem gw_724 : (Jvm.Cond.static ({ cls := "LogDiskLaw", name := "state", desc := "(LLogDisk;I[J)I" } : Jvm.MethodName)) ∈ gTb := gT_4 4 rfl rfl
theorem gw_725 : (Jvm.Cond.codeWith ({ cls := "LogDiskLaw", name := "state", desc := "(LLogDisk;I[J)I" } : Jvm.MethodName) method_10_code (4 : Nat) (Option.some Jvm.ClassFile.FieldType.int) [((0 : Nat), (9 : Nat), (12 : Nat), (30 : Nat))]) ∈ gTb := gT_4 5 rfl rfl
theorem gw_726 : (Jvm.Cond.methodLink "LogDiskLaw" (43 : Nat) ({ cls := "LogDisk", name := "state", desc := "(I)I" } : Jvm.MethodName)) ∈ gTb := gT_4 6 rfl rfl
theorem gw_727 : (Jvm.Cond.instanceMethod ({ cls := "LogDisk", name := "state", desc := "(I)I" } : Jvm.MethodName)) ∈ gTb := gT_4 7 rfl rfl
theorem gw_728 : (Jvm.Cond.selects "LogDisk" ({ cls := "LogDisk", name := "state", desc := "(I)I" } : Jvm.MethodName) ({ cls := "LogDisk", name := "state", desc := "(I)I" } : Jvm.MethodName)) ∈ gTb := gT_4 8 rfl rfl
theorem gw_729 : (Jvm.Cond.code ({ cls := "LogDisk", name := "state", desc := "(I)I" } : Jvm.MethodName) prog_1_method_11_code (2 : Nat) (Option.some Jvm.ClassFile.FieldType.int)) ∈ gTb := gT_4 9 rfl rfl
theorem gw_730 : (Jvm.Cond.methodLink "LogDisk" (251 : Nat) ({ cls := "LogDisk", name := "snapshotBytes", desc := "()I" } : Jvm.MethodName)) ∈ gTb := gT_4 10 rfl rfl
theorem gw_732 : (Jvm.Cond.instanceMethod ({ cls := "LogDisk", name := "snapshotBytes", desc := "()I" } : Jvm.MethodName)) ∈ gTb := gT_4 12 rfl rfl
theorem gw_733 : (Jvm.Cond.code ({ cls := "LogDisk", name := "snapshotBytes", desc := "()I" } : Jvm.MethodName) prog_1_method_21_code (1 : Nat) (Option.some Jvm.ClassFile.FieldType.int)) ∈ gTb := gT_4 13 rfl rfl
theorem gw_734 : (Jvm.Cond.methodLink "LogDisk" (254 : Nat) ({ cls := "LogDisk$Pages", name := "used", desc := "()I" } : Jvm.MethodName)) ∈ gTb := gT_4 14 rfl rfl
theorem gw_735 : (Jvm.Cond.instanceMethod ({ cls := "LogDisk$Pages", name := "used", desc := "()I" } : Jvm.MethodName)) ∈ gTb := gT_4 15 rfl rfl
theorem gw_736 : (Jvm.Cond.selects "LogDisk$Pages" ({ cls := "LogDisk$Pages", name := "used", desc := "()I" } : Jvm.MethodName) ({ cls := "LogDisk$Pages", name := "used", desc := "()I" } : Jvm.MethodName)) ∈ gTb := gT_4 16 rfl rfl
theorem gw_737 : (Jvm.Cond.code ({ cls := "LogDisk$Pages", name := "used", desc := "()I" } : Jvm.MethodName) prog_6_method_2_code (1 : Nat) (Option.some Jvm.ClassFile.FieldType.int)) ∈ gTb := gT_4 17 rfl rfl
theorem gw_739 : (Jvm.Cond.methodLink "LogDiskLaw" (122 : Nat) ({ cls := "LogDiskLaw", name := "entry", desc := "(LLogDisk;II[J)I" } : Jvm.MethodName)) ∈ gTb := gT_4 19 rfl rfl
theorem gw_740 : (Jvm.Cond.static ({ cls := "LogDiskLaw", name := "entry", desc := "(LLogDisk;II[J)I" } : Jvm.MethodName)) ∈ gTb := gT_4 20 rfl rfl
theorem gw_741 : (Jvm.Cond.codeWith ({ cls := "LogDiskLaw", name := "entry", desc := "(LLogDisk;II[J)I" } : Jvm.MethodName) method_11_code (5 : Nat) (Option.some Jvm.ClassFile.FieldType.int) [((0 : Nat), (10 : Nat), (13 : Nat), (30 : Nat))]) ∈ gTb := gT_4 21 rfl rfl
theorem gw_742 : (Jvm.Cond.methodLink "LogDiskLaw" (46 : Nat) ({ cls := "LogDisk", name := "entry", desc := "(II)I" } : Jvm.MethodName)) ∈ gTb := gT_4 22 rfl rfl
theorem gw_743 : (Jvm.Cond.instanceMethod ({ cls := "LogDisk", name := "entry", desc := "(II)I" } : Jvm.MethodName)) ∈ gTb := gT_4 23 rfl rfl
theorem gw_744 : (Jvm.Cond.selects "LogDisk" ({ cls := "LogDisk", name := "entry", desc := "(II)I" } : Jvm.MethodName) ({ cls := "LogDisk", name := "entry", desc := "(II)I" } : Jvm.MethodName)) ∈ gTb := gT_4 24 rfl rfl
theorem gw_745 : (Jvm.Cond.code ({ cls := "LogDisk", name := "entry", desc := "(II)I" } : Jvm.MethodName) prog_1_method_12_code (4 : Nat) (Option.some Jvm.ClassFile.FieldType.int)) ∈ gTb := gT_4 25 rfl rfl
theorem gw_747 : (Jvm.Cond.methodLink "LogDiskLaw" (125 : Nat) ({ cls := "LogDiskLaw", name := "contentAt", desc := "(LLogDisk;II[J)I" } : Jvm.MethodName)) ∈ gTb := gT_4 27 rfl rfl
theorem gw_748 : (Jvm.Cond.static ({ cls := "LogDiskLaw", name := "contentAt", desc := "(LLogDisk;II[J)I" } : Jvm.MethodName)) ∈ gTb := gT_4 28 rfl rfl
theorem gw_749 : (Jvm.Cond.codeWith ({ cls := "LogDiskLaw", name := "contentAt", desc := "(LLogDisk;II[J)I" } : Jvm.MethodName) method_12_code (5 : Nat) (Option.some Jvm.ClassFile.FieldType.int) [((0 : Nat), (10 : Nat), (13 : Nat), (30 : Nat)), ((0 : Nat), (10 : Nat), (17 : Nat), (52 : Nat))]) ∈ gTb := gT_4 29 rfl rfl
theorem gw_750 : (Jvm.Cond.classLink "LogDiskLaw" (52 : Nat) "java/util/NoSuchElementException") ∈ gTb := gT_4 30 rfl rfl
theorem gw_751 : (Jvm.Cond.methodLink "LogDiskLaw" (49 : Nat) ({ cls := "LogDisk", name := "contentAt", desc := "(II)I" } : Jvm.MethodName)) ∈ gTb := gT_4 31 rfl rfl
theorem gw_752 : (Jvm.Cond.instanceMethod ({ cls := "LogDisk", name := "contentAt", desc := "(II)I" } : Jvm.MethodName)) ∈ gTb := gT_4 32 rfl rfl
theorem gw_753 : (Jvm.Cond.selects "LogDisk" ({ cls := "LogDisk", name := "contentAt", desc := "(II)I" } : Jvm.MethodName) ({ cls := "LogDisk", name := "contentAt", desc := "(II)I" } : Jvm.MethodName)) ∈ gTb := gT_4 33 rfl rfl
theorem gw_754 : (Jvm.Cond.code ({ cls := "LogDisk", name := "contentAt", desc := "(II)I" } : Jvm.MethodName) prog_1_method_13_code (4 : Nat) (Option.some Jvm.ClassFile.FieldType.int)) ∈ gTb := gT_4 34 rfl rfl
theorem gw_756 : (Jvm.Cond.classLink "LogDisk" (270 : Nat) "java/util/NoSuchElementException") ∈ gTb := gT_4 36 rfl rfl
theorem gw_757 : (Jvm.Cond.instantiable "java/util/NoSuchElementException" (6 : Nat)) ∈ gTb := gT_4 37 rfl rfl
theorem gw_759 : (Jvm.Cond.selects "java/util/NoSuchElementException" ({ cls := "java/lang/Throwable", name := "fillInStackTrace", desc := "(I)Ljava/lang/Throwable;" } : Jvm.MethodName) ({ cls := "java/lang/Throwable", name := "fillInStackTrace", desc := "(I)Ljava/lang/Throwable;" } : Jvm.MethodName)) ∈ gTb := gT_4 39 rfl rfl
theorem gw_760 : (Jvm.Cond.lays "java/util/NoSuchElementException" "java/lang/Throwable" "cause" "Ljava/lang/Throwable;") ∈ gTb := gT_4 40 rfl rfl
theorem gw_761 : (Jvm.Cond.lays "java/util/NoSuchElementException" "java/lang/Throwable" "stackTrace" "[Ljava/lang/StackTraceElement;") ∈ gTb := gT_4 41 rfl rfl
theorem gw_762 : (Jvm.Cond.lays "java/util/NoSuchElementException" "java/lang/Throwable" "suppressedExceptions" "Ljava/util/List;") ∈ gTb := gT_4 42 rfl rfl
theorem gw_763 : (Jvm.Cond.lays "java/util/NoSuchElementException" "java/lang/Throwable" "detailMessage" "Ljava/lang/String;") ∈ gTb := gT_4 43 rfl rfl
theorem gw_764 : (Jvm.Cond.lays "java/util/NoSuchElementException" "java/lang/Throwable" "backtrace" "Ljava/lang/Object;") ∈ gTb := gT_4 44 rfl rfl
theorem gw_766 : (Jvm.Cond.methodLink "LogDisk" (274 : Nat) ({ cls := "java/util/NoSuchElementException", name := "<init>", desc := "(Ljava/lang/String;)V" } : Jvm.MethodName)) ∈ gTb := gT_4 46 rfl rfl
theorem gw_767 : (Jvm.Cond.instanceMethod ({ cls := "java/util/NoSuchElementException", name := "<init>", desc := "(Ljava/lang/String;)V" } : Jvm.MethodName)) ∈ gTb := gT_4 47 rfl rfl
theorem gw_768 : (Jvm.Cond.code ({ cls := "java/util/NoSuchElementException", name := "<init>", desc := "(Ljava/lang/String;)V" } : Jvm.MethodName) prog_23_method_4_code (2 : Nat) (Option.none : Option Jvm.ClassFile.FieldType)) ∈ gTb := gT_4 48 rfl rfl
theorem gw_769 : (Jvm.Cond.methodLink "java/util/NoSuchElementException" (13 : Nat) ({ cls := "java/lang/RuntimeException", name := "<init>", desc := "(Ljava/lang/String;)V" } : Jvm.MethodName)) ∈ gTb := gT_4 49 rfl rfl
theorem gw_770 : (Jvm.Cond.lays "java/util/NoSuchElementException" "java/lang/Throwable" "depth" "I") ∈ gTb := gT_4 50 rfl rfl
theorem gw_772 : (Jvm.Cond.methodLink "LogDiskLaw" (128 : Nat) ({ cls := "LogDiskLaw", name := "snapshotAt", desc := "(LLogDisk;I[J)I" } : Jvm.MethodName)) ∈ gTb := gT_4 52 rfl rfl
theorem gw_773 : (Jvm.Cond.static ({ cls := "LogDiskLaw", name := "snapshotAt", desc := "(LLogDisk;I[J)I" } : Jvm.MethodName)) ∈ gTb := gT_4 53 rfl rfl
theorem gw_774 : (Jvm.Cond.codeWith ({ cls := "LogDiskLaw", name := "snapshotAt", desc := "(LLogDisk;I[J)I" } : Jvm.MethodName) method_13_code (4 : Nat) (Option.some Jvm.ClassFile.FieldType.int) [((0 : Nat), (9 : Nat), (12 : Nat), (30 : Nat))]) ∈ gTb := gT_4 54 rfl rfl
theorem gw_775 : (Jvm.Cond.methodLink "LogDiskLaw" (54 : Nat) ({ cls := "LogDisk", name := "snapshotAt", desc := "(I)I" } : Jvm.MethodName)) ∈ gTb := gT_4 55 rfl rfl
theorem gw_776 : (Jvm.Cond.instanceMethod ({ cls := "LogDisk", name := "snapshotAt", desc := "(I)I" } : Jvm.MethodName)) ∈ gTb := gT_4 56 rfl rfl
theorem gw_777 : (Jvm.Cond.selects "LogDisk" ({ cls := "LogDisk", name := "snapshotAt", desc := "(I)I" } : Jvm.MethodName) ({ cls := "LogDisk", name := "snapshotAt", desc := "(I)I" } : Jvm.MethodName)) ∈ gTb := gT_4 57 rfl rfl
theorem gw_778 : (Jvm.Cond.code ({ cls := "LogDisk", name := "snapshotAt", desc := "(I)I" } : Jvm.MethodName) prog_1_method_14_code (2 : Nat) (Option.some Jvm.ClassFile.FieldType.int)) ∈ gTb := gT_4 58 rfl rfl
theorem gw_779 : (Jvm.Cond.methodLink "LogDiskLaw" (131 : Nat) ({ cls := "LogDiskLaw", name := "segment", desc := "(LLogDisk;II[J)I" } : Jvm.MethodName)) ∈ gTb := gT_4 59 rfl rfl
theorem gw_780 : (Jvm.Cond.static ({ cls := "LogDiskLaw", name := "segment", desc := "(LLogDisk;II[J)I" } : Jvm.MethodName)) ∈ gTb := gT_4 60 rfl rfl
theorem gw_781 : (Jvm.Cond.codeWith ({ cls := "LogDiskLaw", name := "segment", desc := "(LLogDisk;II[J)I" } : Jvm.MethodName) method_14_code (5 : Nat) (Option.some Jvm.ClassFile.FieldType.int) [((0 : Nat), (10 : Nat), (13 : Nat), (30 : Nat))]) ∈ gTb := gT_4 61 rfl rfl
theorem gw_782 : (Jvm.Cond.methodLink "LogDiskLaw" (57 : Nat) ({ cls := "LogDisk", name := "segment", desc := "(II)I" } : Jvm.MethodName)) ∈ gTb := gT_4 62 rfl rfl
theorem gw_783 : (Jvm.Cond.instanceMethod ({ cls := "LogDisk", name := "segment", desc := "(II)I" } : Jvm.MethodName)) ∈ gTb := gT_4 63 rfl rfl
theorem gw_784 : (Jvm.Cond.selects "LogDisk" ({ cls := "LogDisk", name := "segment", desc := "(II)I" } : Jvm.MethodName) ({ cls := "LogDisk", name := "segment", desc := "(II)I" } : Jvm.MethodName)) ∈ gTb := gT_4 64 rfl rfl
theorem gw_785 : (Jvm.Cond.code ({ cls := "LogDisk", name := "segment", desc := "(II)I" } : Jvm.MethodName) prog_1_method_15_code (3 : Nat) (Option.some Jvm.ClassFile.FieldType.int)) ∈ gTb := gT_4 65 rfl rfl
theorem gw_787 : (Jvm.Cond.methodLink "LogDiskLaw" (134 : Nat) ({ cls := "LogDiskLaw", name := "file", desc := "(LLogDisk;II[J)I" } : Jvm.MethodName)) ∈ gTb := gT_4 67 rfl rfl
theorem gw_788 : (Jvm.Cond.static ({ cls := "LogDiskLaw", name := "file", desc := "(LLogDisk;II[J)I" } : Jvm.MethodName)) ∈ gTb := gT_4 68 rfl rfl
theorem gw_789 : (Jvm.Cond.codeWith ({ cls := "LogDiskLaw", name := "file", desc := "(LLogDisk;II[J)I" } : Jvm.MethodName) method_15_code (5 : Nat) (Option.some Jvm.ClassFile.FieldType.int) [((0 : Nat), (10 : Nat), (13 : Nat), (30 : Nat))]) ∈ gTb := gT_4 69 rfl rfl
theorem gw_790 : (Jvm.Cond.methodLink "LogDiskLaw" (60 : Nat) ({ cls := "LogDisk", name := "file", desc := "(II)I" } : Jvm.MethodName)) ∈ gTb := gT_4 70 rfl rfl
theorem gw_791 : (Jvm.Cond.instanceMethod ({ cls := "LogDisk", name := "file", desc := "(II)I" } : Jvm.MethodName)) ∈ gTb := gT_4 71 rfl rfl
theorem gw_792 : (Jvm.Cond.selects "LogDisk" ({ cls := "LogDisk", name := "file", desc := "(II)I" } : Jvm.MethodName) ({ cls := "LogDisk", name := "file", desc := "(II)I" } : Jvm.MethodName)) ∈ gTb := gT_4 72 rfl rfl
theorem gw_793 : (Jvm.Cond.code ({ cls := "LogDisk", name := "file", desc := "(II)I" } : Jvm.MethodName) prog_1_method_16_code (4 : Nat) (Option.some Jvm.ClassFile.FieldType.int)) ∈ gTb := gT_4 73 rfl rfl
theorem gw_794 : (Jvm.Cond.methodLink "LogDiskLaw" (137 : Nat) ({ cls := "LogDiskLaw", name := "byteAt", desc := "(LLogDisk;II[J)I" } : Jvm.MethodName)) ∈ gTb := gT_4 74 rfl rfl
theorem gw_795 : (Jvm.Cond.static ({ cls := "LogDiskLaw", name := "byteAt", desc := "(LLogDisk;II[J)I" } : Jvm.MethodName)) ∈ gTb := gT_4 75 rfl rfl
theorem gw_796 : (Jvm.Cond.codeWith ({ cls := "LogDiskLaw", name := "byteAt", desc := "(LLogDisk;II[J)I" } : Jvm.MethodName) method_16_code (5 : Nat) (Option.some Jvm.ClassFile.FieldType.int) [((0 : Nat), (10 : Nat), (13 : Nat), (30 : Nat))]) ∈ gTb := gT_4 76 rfl rfl
theorem gw_797 : (Jvm.Cond.methodLink "LogDiskLaw" (63 : Nat) ({ cls := "LogDisk", name := "byteAt", desc := "(II)I" } : Jvm.MethodName)) ∈ gTb := gT_4 77 rfl rfl
theorem gw_798 : (Jvm.Cond.instanceMethod ({ cls := "LogDisk", name := "byteAt", desc := "(II)I" } : Jvm.MethodName)) ∈ gTb := gT_4 78 rfl rfl
theorem gw_799 : (Jvm.Cond.selects "LogDisk" ({ cls := "LogDisk", name := "byteAt", desc := "(II)I" } : Jvm.MethodName) ({ cls := "LogDisk", name := "byteAt", desc := "(II)I" } : Jvm.MethodName)) ∈ gTb := gT_4 79 rfl rfl
theorem gw_800 : (Jvm.Cond.code ({ cls := "LogDisk", name := "byteAt", desc := "(II)I" } : Jvm.MethodName) prog_1_method_17_code (3 : Nat) (Option.some Jvm.ClassFile.FieldType.int)) ∈ gTb := gT_4 80 rfl rfl
theorem gw_801 : (Jvm.Cond.classLink "LogDiskLaw" (74 : Nat) "LogDiskModel") ∈ gTb := gT_4 81 rfl rfl
theorem gw_802 : (Jvm.Cond.instantiable "LogDiskModel" (35 : Nat)) ∈ gTb := gT_4 82 rfl rfl
theorem gw_803 : (Jvm.Cond.methodLink "LogDiskLaw" (76 : Nat) ({ cls := "LogDiskModel", name := "<init>", desc := "(II)V" } : Jvm.MethodName)) ∈ gTb := gT_4 83 rfl rfl
theorem gw_804 : (Jvm.Cond.instanceMethod ({ cls := "LogDiskModel", name := "<init>", desc := "(II)V" } : Jvm.MethodName)) ∈ gTb := gT_4 84 rfl rfl
theorem gw_805 : (Jvm.Cond.code ({ cls := "LogDiskModel", name := "<init>", desc := "(II)V" } : Jvm.MethodName) prog_12_method_1_code (4 : Nat) (Option.none : Option Jvm.ClassFile.FieldType)) ∈ gTb := gT_4 85 rfl rfl
theorem gw_806 : (Jvm.Cond.methodLink "LogDiskModel" (1 : Nat) ({ cls := "java/lang/Object", name := "<init>", desc := "()V" } : Jvm.MethodName)) ∈ gTb := gT_4 86 rfl rfl
theorem gw_807 : (Jvm.Cond.fieldLink "LogDiskModel" (78 : Nat) "LogDiskModel" "thrown" "I") ∈ gTb := gT_4 87 rfl rfl
theorem gw_808 : (Jvm.Cond.fieldLink "LogDiskModel" (66 : Nat) "LogDiskModel" "limit" "I") ∈ gTb := gT_4 88 rfl rfl
theorem gw_809 : (Jvm.Cond.fieldLink "LogDiskModel" (69 : Nat) "LogDiskModel" "firstCode" "I") ∈ gTb := gT_4 89 rfl rfl
theorem gw_810 : (Jvm.Cond.fieldLink "LogDiskModel" (81 : Nat) "LogDiskModel" "frames" "I") ∈ gTb := gT_4 90 rfl rfl
theorem gw_811 : (Jvm.Cond.fieldLink "LogDiskModel" (7 : Nat) "LogDiskModel" "sorts" "[I") ∈ gTb := gT_4 91 rfl rfl
theorem gw_812 : (Jvm.Cond.fieldLink "LogDiskModel" (13 : Nat) "LogDiskModel" "as" "[I") ∈ gTb := gT_4 92 rfl rfl
theorem gw_813 : (Jvm.Cond.fieldLink "LogDiskModel" (16 : Nat) "LogDiskModel" "bs" "[I") ∈ gTb := gT_4 93 rfl rfl
theorem gw_814 : (Jvm.Cond.fieldLink "LogDiskModel" (19 : Nat) "LogDiskModel" "cs" "[I") ∈ gTb := gT_4 94 rfl rfl
theorem gw_815 : (Jvm.Cond.fieldLink "LogDiskModel" (22 : Nat) "LogDiskModel" "froms" "[I") ∈ gTb := gT_4 95 rfl rfl
theorem gw_816 : (Jvm.Cond.fieldLink "LogDiskModel" (25 : Nat) "LogDiskModel" "lengths" "[I") ∈ gTb := gT_4 96 rfl rfl
theorem gw_817 : (Jvm.Cond.fieldLink "LogDiskModel" (28 : Nat) "LogDiskModel" "bytes" "[I") ∈ gTb := gT_4 97 rfl rfl
theorem gw_818 : (Jvm.Cond.fieldLink "LogDiskModel" (84 : Nat) "LogDiskModel" "used" "I") ∈ gTb := gT_4 98 rfl rfl
theorem gw_819 : (Jvm.Cond.fieldLink "LogDiskModel" (31 : Nat) "LogDiskModel" "rows" "[I") ∈ gTb := gT_4 99 rfl rfl
theorem gw_820 : (Jvm.Cond.fieldLink "LogDiskModel" (34 : Nat) "LogDiskModel" "counts" "[I") ∈ gTb := gT_4 100 rfl rfl
theorem gw_821 : (Jvm.Cond.fieldLink "LogDiskModel" (37 : Nat) "LogDiskModel" "sizes" "[I") ∈ gTb := gT_4 101 rfl rfl
theorem gw_822 : (Jvm.Cond.fieldLink "LogDiskModel" (40 : Nat) "LogDiskModel" "there" "[Z") ∈ gTb := gT_4 102 rfl rfl
theorem gw_823 : (Jvm.Cond.fieldLink "LogDiskModel" (44 : Nat) "LogDiskModel" "lows" "[I") ∈ gTb := gT_4 103 rfl rfl
theorem gw_824 : (Jvm.Cond.fieldLink "LogDiskModel" (47 : Nat) "LogDiskModel" "shared" "[I") ∈ gTb := gT_4 104 rfl rfl
theorem gw_825 : (Jvm.Cond.fieldLink "LogDiskModel" (50 : Nat) "LogDiskModel" "keeps" "[I") ∈ gTb := gT_4 105 rfl rfl
theorem gw_826 : (Jvm.Cond.fieldLink "LogDiskModel" (135 : Nat) "LogDiskModel" "term" "I") ∈ gTb := gT_4 106 rfl rfl
theorem gw_827 : (Jvm.Cond.fieldLink "LogDiskModel" (53 : Nat) "LogDiskModel" "voted" "I") ∈ gTb := gT_4 107 rfl rfl
theorem gw_828 : (Jvm.Cond.fieldLink "LogDiskModel" (150 : Nat) "LogDiskModel" "times" "I") ∈ gTb := gT_4 108 rfl rfl
theorem gw_829 : (Jvm.Cond.fieldLink "LogDiskModel" (143 : Nat) "LogDiskModel" "slot" "I") ∈ gTb := gT_4 109 rfl rfl
theorem gw_830 : (Jvm.Cond.fieldLink "LogDiskModel" (163 : Nat) "LogDiskModel" "base" "I") ∈ gTb := gT_4 110 rfl rfl
theorem gw_831 : (Jvm.Cond.fieldLink "LogDiskModel" (166 : Nat) "LogDiskModel" "baseTerm" "I") ∈ gTb := gT_4 111 rfl rfl
theorem gw_832 : (Jvm.Cond.fieldLink "LogDiskModel" (72 : Nat) "LogDiskModel" "code" "I") ∈ gTb := gT_4 112 rfl rfl
theorem gw_833 : (Jvm.Cond.fieldLink "LogDiskModel" (75 : Nat) "LogDiskModel" "snapshot" "I") ∈ gTb := gT_4 113 rfl rfl
theorem gw_834 : (Jvm.Cond.fieldLink "LogDiskModel" (169 : Nat) "LogDiskModel" "last" "I") ∈ gTb := gT_4 114 rfl rfl
theorem gw_835 : (Jvm.Cond.fieldLink "LogDiskModel" (139 : Nat) "LogDiskModel" "slotSince" "Z") ∈ gTb := gT_4 115 rfl rfl
theorem gw_836 : (Jvm.Cond.fieldLink "LogDiskModel" (160 : Nat) "LogDiskModel" "dirty" "Z") ∈ gTb := gT_4 116 rfl rfl
theorem gw_837 : (Jvm.Cond.fieldLink "LogDiskModel" (175 : Nat) "LogDiskModel" "segments" "I") ∈ gTb := gT_4 117 rfl rfl
theorem gw_838 : (Jvm.Cond.fieldLink "LogDiskModel" (57 : Nat) "LogDiskModel" "order" "[I") ∈ gTb := gT_4 118 rfl rfl
theorem gw_839 : (Jvm.Cond.fieldLink "LogDiskModel" (60 : Nat) "LogDiskModel" "entries" "[I") ∈ gTb := gT_4 119 rfl rfl
theorem gw_840 : (Jvm.Cond.fieldLink "LogDiskModel" (132 : Nat) "LogDiskModel" "tape" "I") ∈ gTb := gT_4 120 rfl rfl
theorem gw_841 : (Jvm.Cond.fieldLink "LogDiskModel" (63 : Nat) "LogDiskModel" "fed" "[I") ∈ gTb := gT_4 121 rfl rfl
theorem gw_842 : (Jvm.Cond.lays "LogDiskModel" "LogDiskModel" "thrown" "I") ∈ gTb := gT_4 122 rfl rfl
theorem gw_844 : (Jvm.Cond.laysFinal "LogDiskModel" "LogDiskModel" "limit" "I") ∈ gTb := gT_4 124 rfl rfl
theorem gw_846 : (Jvm.Cond.laysFinal "LogDiskModel" "LogDiskModel" "firstCode" "I") ∈ gTb := gT_4 126 rfl rfl
theorem gw_848 : (Jvm.Cond.lays "LogDiskModel" "LogDiskModel" "frames" "I") ∈ gTb := gT_4 128 rfl rfl
theorem gw_850 : (Jvm.Cond.laysFinal "LogDiskModel" "LogDiskModel" "sorts" "[I") ∈ gTb := gT_4 130 rfl rfl
theorem gw_852 : (Jvm.Cond.laysFinal "LogDiskModel" "LogDiskModel" "as" "[I") ∈ gTb := gT_4 132 rfl rfl
theorem gw_854 : (Jvm.Cond.laysFinal "LogDiskModel" "LogDiskModel" "bs" "[I") ∈ gTb := gT_4 134 rfl rfl
theorem gw_856 : (Jvm.Cond.laysFinal "LogDiskModel" "LogDiskModel" "cs" "[I") ∈ gTb := gT_4 136 rfl rfl
theorem gw_858 : (Jvm.Cond.laysFinal "LogDiskModel" "LogDiskModel" "froms" "[I") ∈ gTb := gT_4 138 rfl rfl
theorem gw_860 : (Jvm.Cond.laysFinal "LogDiskModel" "LogDiskModel" "lengths" "[I") ∈ gTb := gT_4 140 rfl rfl
theorem gw_862 : (Jvm.Cond.laysFinal "LogDiskModel" "LogDiskModel" "bytes" "[I") ∈ gTb := gT_4 142 rfl rfl
theorem gw_864 : (Jvm.Cond.lays "LogDiskModel" "LogDiskModel" "used" "I") ∈ gTb := gT_4 144 rfl rfl
theorem gw_866 : (Jvm.Cond.laysFinal "LogDiskModel" "LogDiskModel" "rows" "[I") ∈ gTb := gT_4 146 rfl rfl
theorem gw_868 : (Jvm.Cond.laysFinal "LogDiskModel" "LogDiskModel" "counts" "[I") ∈ gTb := gT_4 148 rfl rfl
theorem gw_870 : (Jvm.Cond.laysFinal "LogDiskModel" "LogDiskModel" "sizes" "[I") ∈ gTb := gT_4 150 rfl rfl
theorem gw_872 : (Jvm.Cond.laysFinal "LogDiskModel" "LogDiskModel" "there" "[Z") ∈ gTb := gT_4 152 rfl rfl
theorem gw_874 : (Jvm.Cond.laysFinal "LogDiskModel" "LogDiskModel" "lows" "[I") ∈ gTb := gT_4 154 rfl rfl
theorem gw_876 : (Jvm.Cond.laysFinal "LogDiskModel" "LogDiskModel" "shared" "[I") ∈ gTb := gT_4 156 rfl rfl
theorem gw_878 : (Jvm.Cond.laysFinal "LogDiskModel" "LogDiskModel" "keeps" "[I") ∈ gTb := gT_4 158 rfl rfl
theorem gw_880 : (Jvm.Cond.lays "LogDiskModel" "LogDiskModel" "term" "I") ∈ gTb := gT_4 160 rfl rfl
theorem gw_882 : (Jvm.Cond.lays "LogDiskModel" "LogDiskModel" "voted" "I") ∈ gTb := gT_4 162 rfl rfl
theorem gw_884 : (Jvm.Cond.lays "LogDiskModel" "LogDiskModel" "times" "I") ∈ gTb := gT_4 164 rfl rfl
theorem gw_886 : (Jvm.Cond.lays "LogDiskModel" "LogDiskModel" "slot" "I") ∈ gTb := gT_4 166 rfl rfl
theorem gw_888 : (Jvm.Cond.lays "LogDiskModel" "LogDiskModel" "base" "I") ∈ gTb := gT_4 168 rfl rfl
theorem gw_890 : (Jvm.Cond.lays "LogDiskModel" "LogDiskModel" "baseTerm" "I") ∈ gTb := gT_4 170 rfl rfl
theorem gw_892 : (Jvm.Cond.lays "LogDiskModel" "LogDiskModel" "code" "I") ∈ gTb := gT_4 172 rfl rfl
theorem gw_894 : (Jvm.Cond.lays "LogDiskModel" "LogDiskModel" "snapshot" "I") ∈ gTb := gT_4 174 rfl rfl
theorem gw_896 : (Jvm.Cond.lays "LogDiskModel" "LogDiskModel" "last" "I") ∈ gTb := gT_4 176 rfl rfl
theorem gw_898 : (Jvm.Cond.lays "LogDiskModel" "LogDiskModel" "slotSince" "Z") ∈ gTb := gT_4 178 rfl rfl
theorem gw_900 : (Jvm.Cond.lays "LogDiskModel" "LogDiskModel" "dirty" "Z") ∈ gTb := gT_4 180 rfl rfl
theorem gw_902 : (Jvm.Cond.lays "LogDiskModel" "LogDiskModel" "segments" "I") ∈ gTb := gT_4 182 rfl rfl
theorem gw_904 : (Jvm.Cond.laysFinal "LogDiskModel" "LogDiskModel" "order" "[I") ∈ gTb := gT_4 184 rfl rfl
theorem gw_906 : (Jvm.Cond.laysFinal "LogDiskModel" "LogDiskModel" "entries" "[I") ∈ gTb := gT_4 186 rfl rfl
theorem gw_908 : (Jvm.Cond.lays "LogDiskModel" "LogDiskModel" "tape" "I") ∈ gTb := gT_4 188 rfl rfl
theorem gw_910 : (Jvm.Cond.laysFinal "LogDiskModel" "LogDiskModel" "fed" "[I") ∈ gTb := gT_4 190 rfl rfl
theorem gw_913 : (Jvm.Cond.arrayClass Jvm.ClassFile.FieldType.boolean) ∈ gTb := gT_4 193 rfl rfl
theorem gw_914 : (Jvm.Cond.methodLink "LogDiskLaw" (83 : Nat) ({ cls := "LogDiskModel", name := "thrown", desc := "()I" } : Jvm.MethodName)) ∈ gTb := gT_4 194 rfl rfl
theorem gw_915 : (Jvm.Cond.instanceMethod ({ cls := "LogDiskModel", name := "thrown", desc := "()I" } : Jvm.MethodName)) ∈ gTb := gT_4 195 rfl rfl
theorem gw_916 : (Jvm.Cond.selects "LogDiskModel" ({ cls := "LogDiskModel", name := "thrown", desc := "()I" } : Jvm.MethodName) ({ cls := "LogDiskModel", name := "thrown", desc := "()I" } : Jvm.MethodName)) ∈ gTb := gT_4 196 rfl rfl
theorem gw_917 : (Jvm.Cond.code ({ cls := "LogDiskModel", name := "thrown", desc := "()I" } : Jvm.MethodName) prog_12_method_2_code (1 : Nat) (Option.some Jvm.ClassFile.FieldType.int)) ∈ gTb := gT_4 197 rfl rfl
theorem gw_918 : (Jvm.Cond.methodLink "LogDiskLaw" (82 : Nat) ({ cls := "LogDiskModel", name := "feed", desc := "(JI)I" } : Jvm.MethodName)) ∈ gTb := gT_4 198 rfl rfl
theorem gw_919 : (Jvm.Cond.instanceMethod ({ cls := "LogDiskModel", name := "feed", desc := "(JI)I" } : Jvm.MethodName)) ∈ gTb := gT_4 199 rfl rfl
theorem gw_920 : (Jvm.Cond.selects "LogDiskModel" ({ cls := "LogDiskModel", name := "feed", desc := "(JI)I" } : Jvm.MethodName) ({ cls := "LogDiskModel", name := "feed", desc := "(JI)I" } : Jvm.MethodName)) ∈ gTb := gT_4 200 rfl rfl
theorem gw_921 : (Jvm.Cond.code ({ cls := "LogDiskModel", name := "feed", desc := "(JI)I" } : Jvm.MethodName) prog_12_method_23_code (5 : Nat) (Option.some Jvm.ClassFile.FieldType.int)) ∈ gTb := gT_4 201 rfl rfl
theorem gw_922 : (Jvm.Cond.methodLink "LogDiskModel" (125 : Nat) ({ cls := "LogDiskModel", name := "within", desc := "(III)Z" } : Jvm.MethodName)) ∈ gTb := gT_4 202 rfl rfl
theorem gw_923 : (Jvm.Cond.static ({ cls := "LogDiskModel", name := "within", desc := "(III)Z" } : Jvm.MethodName)) ∈ gTb := gT_4 203 rfl rfl
theorem gw_924 : (Jvm.Cond.code ({ cls := "LogDiskModel", name := "within", desc := "(III)Z" } : Jvm.MethodName) prog_12_method_4_code (3 : Nat) (Option.some Jvm.ClassFile.FieldType.boolean)) ∈ gTb := gT_4 204 rfl rfl
theorem gw_925 : (Jvm.Cond.methodLink "LogDiskModel" (129 : Nat) ({ cls := "LogDiskModel", name := "fail", desc := "(I)I" } : Jvm.MethodName)) ∈ gTb := gT_4 205 rfl rfl
theorem gw_927 : (Jvm.Cond.instanceMethod ({ cls := "LogDiskModel", name := "fail", desc := "(I)I" } : Jvm.MethodName)) ∈ gTb := gT_4 207 rfl rfl
theorem gw_928 : (Jvm.Cond.code ({ cls := "LogDiskModel", name := "fail", desc := "(I)I" } : Jvm.MethodName) prog_12_method_3_code (2 : Nat) (Option.some Jvm.ClassFile.FieldType.int)) ∈ gTb := gT_4 208 rfl rfl
theorem gw_929 : (Jvm.Cond.methodLink "LogDiskModel" (93 : Nat) ({ cls := "LogDiskModel", name := "byteOf", desc := "(JI)I" } : Jvm.MethodName)) ∈ gTb := gT_4 209 rfl rfl
theorem gw_930 : (Jvm.Cond.static ({ cls := "LogDiskModel", name := "byteOf", desc := "(JI)I" } : Jvm.MethodName)) ∈ gTb := gT_4 210 rfl rfl
theorem gw_931 : (Jvm.Cond.code ({ cls := "LogDiskModel", name := "byteOf", desc := "(JI)I" } : Jvm.MethodName) prog_12_method_9_code (3 : Nat) (Option.some Jvm.ClassFile.FieldType.int)) ∈ gTb := gT_4 211 rfl rfl
theorem gw_932 : (Jvm.Cond.constantLong "LogDiskModel" (91 : Nat) (255 : Int64)) ∈ gTb := gT_4 212 rfl rfl
theorem gw_933 : (Jvm.Cond.methodLink "LogDiskLaw" (90 : Nat) ({ cls := "LogDiskModel", name := "save", desc := "(II)I" } : Jvm.MethodName)) ∈ gTb := gT_4 213 rfl rfl
theorem gw_934 : (Jvm.Cond.instanceMethod ({ cls := "LogDiskModel", name := "save", desc := "(II)I" } : Jvm.MethodName)) ∈ gTb := gT_4 214 rfl rfl
theorem gw_935 : (Jvm.Cond.selects "LogDiskModel" ({ cls := "LogDiskModel", name := "save", desc := "(II)I" } : Jvm.MethodName) ({ cls := "LogDiskModel", name := "save", desc := "(II)I" } : Jvm.MethodName)) ∈ gTb := gT_4 215 rfl rfl
theorem gw_936 : (Jvm.Cond.code ({ cls := "LogDiskModel", name := "save", desc := "(II)I" } : Jvm.MethodName) prog_12_method_24_code (5 : Nat) (Option.some Jvm.ClassFile.FieldType.int)) ∈ gTb := gT_4 216 rfl rfl
theorem gw_937 : (Jvm.Cond.constant "LogDiskModel" (138 : Nat) (1000000 : Int32)) ∈ gTb := gT_4 217 rfl rfl
theorem gw_938 : (Jvm.Cond.methodLink "LogDiskModel" (146 : Nat) ({ cls := "LogDiskModel", name := "hasRoomAnew", desc := "(II)Z" } : Jvm.MethodName)) ∈ gTb := gT_4 218 rfl rfl
theorem gw_940 : (Jvm.Cond.instanceMethod ({ cls := "LogDiskModel", name := "hasRoomAnew", desc := "(II)Z" } : Jvm.MethodName)) ∈ gTb := gT_4 220 rfl rfl
theorem gw_941 : (Jvm.Cond.code ({ cls := "LogDiskModel", name := "hasRoomAnew", desc := "(II)Z" } : Jvm.MethodName) prog_12_method_17_code (4 : Nat) (Option.some Jvm.ClassFile.FieldType.boolean)) ∈ gTb := gT_4 221 rfl rfl
theorem gw_942 : (Jvm.Cond.methodLink "LogDiskModel" (111 : Nat) ({ cls := "LogDiskModel", name := "pagesUsed", desc := "()I" } : Jvm.MethodName)) ∈ gTb := gT_4 222 rfl rfl
theorem gw_944 : (Jvm.Cond.instanceMethod ({ cls := "LogDiskModel", name := "pagesUsed", desc := "()I" } : Jvm.MethodName)) ∈ gTb := gT_4 224 rfl rfl
theorem gw_945 : (Jvm.Cond.code ({ cls := "LogDiskModel", name := "pagesUsed", desc := "()I" } : Jvm.MethodName) prog_12_method_14_code (3 : Nat) (Option.some Jvm.ClassFile.FieldType.int)) ∈ gTb := gT_4 225 rfl rfl
theorem gw_946 : (Jvm.Cond.methodLink "LogDiskModel" (105 : Nat) ({ cls := "LogDiskModel", name := "pages", desc := "(I)I" } : Jvm.MethodName)) ∈ gTb := gT_4 226 rfl rfl
theorem gw_947 : (Jvm.Cond.static ({ cls := "LogDiskModel", name := "pages", desc := "(I)I" } : Jvm.MethodName)) ∈ gTb := gT_4 227 rfl rfl
theorem gw_948 : (Jvm.Cond.code ({ cls := "LogDiskModel", name := "pages", desc := "(I)I" } : Jvm.MethodName) prog_12_method_13_code (1 : Nat) (Option.some Jvm.ClassFile.FieldType.int)) ∈ gTb := gT_4 228 rfl rfl
theorem gw_949 : (Jvm.Cond.methodLink "LogDiskModel" (118 : Nat) ({ cls := "LogDiskModel", name := "cut", desc := "(II)V" } : Jvm.MethodName)) ∈ gTb := gT_4 229 rfl rfl
theorem gw_951 : (Jvm.Cond.instanceMethod ({ cls := "LogDiskModel", name := "cut", desc := "(II)V" } : Jvm.MethodName)) ∈ gTb := gT_4 231 rfl rfl
theorem gw_952 : (Jvm.Cond.code ({ cls := "LogDiskModel", name := "cut", desc := "(II)V" } : Jvm.MethodName) prog_12_method_18_code (5 : Nat) (Option.none : Option Jvm.ClassFile.FieldType)) ∈ gTb := gT_4 232 rfl rfl
theorem gw_953 : (Jvm.Cond.methodLink "LogDiskModel" (115 : Nat) ({ cls := "LogDiskModel", name := "space", desc := "(I)I" } : Jvm.MethodName)) ∈ gTb := gT_4 233 rfl rfl
theorem gw_955 : (Jvm.Cond.instanceMethod ({ cls := "LogDiskModel", name := "space", desc := "(I)I" } : Jvm.MethodName)) ∈ gTb := gT_4 235 rfl rfl
theorem gw_956 : (Jvm.Cond.code ({ cls := "LogDiskModel", name := "space", desc := "(I)I" } : Jvm.MethodName) prog_12_method_8_code (2 : Nat) (Option.some Jvm.ClassFile.FieldType.int)) ∈ gTb := gT_4 236 rfl rfl
theorem gw_957 : (Jvm.Cond.methodLink "LogDiskModel" (87 : Nat) ({ cls := "LogDiskModel", name := "payload", desc := "(I)I" } : Jvm.MethodName)) ∈ gTb := gT_4 237 rfl rfl
theorem gw_959 : (Jvm.Cond.instanceMethod ({ cls := "LogDiskModel", name := "payload", desc := "(I)I" } : Jvm.MethodName)) ∈ gTb := gT_4 239 rfl rfl
theorem gw_960 : (Jvm.Cond.code ({ cls := "LogDiskModel", name := "payload", desc := "(I)I" } : Jvm.MethodName) prog_12_method_7_code (2 : Nat) (Option.some Jvm.ClassFile.FieldType.int)) ∈ gTb := gT_5 0 rfl rfl
theorem gw_961 : (Jvm.Cond.methodLink "LogDiskModel" (153 : Nat) ({ cls := "LogDiskModel", name := "make", desc := "(IIII)I" } : Jvm.MethodName)) ∈ gTb := gT_5 1 rfl rfl
theorem gw_963 : (Jvm.Cond.instanceMethod ({ cls := "LogDiskModel", name := "make", desc := "(IIII)I" } : Jvm.MethodName)) ∈ gTb := gT_5 3 rfl rfl
theorem gw_964 : (Jvm.Cond.code ({ cls := "LogDiskModel", name := "make", desc := "(IIII)I" } : Jvm.MethodName) prog_12_method_5_code (6 : Nat) (Option.some Jvm.ClassFile.FieldType.int)) ∈ gTb := gT_5 4 rfl rfl
theorem gw_965 : (Jvm.Cond.methodLink "LogDiskModel" (157 : Nat) ({ cls := "LogDiskModel", name := "put", desc := "(II)V" } : Jvm.MethodName)) ∈ gTb := gT_5 5 rfl rfl
theorem gw_967 : (Jvm.Cond.instanceMethod ({ cls := "LogDiskModel", name := "put", desc := "(II)V" } : Jvm.MethodName)) ∈ gTb := gT_5 7 rfl rfl
theorem gw_968 : (Jvm.Cond.code ({ cls := "LogDiskModel", name := "put", desc := "(II)V" } : Jvm.MethodName) prog_12_method_20_code (3 : Nat) (Option.none : Option Jvm.ClassFile.FieldType)) ∈ gTb := gT_5 8 rfl rfl
theorem gw_969 : (Jvm.Cond.methodLink "LogDiskLaw" (93 : Nat) ({ cls := "LogDiskModel", name := "append", desc := "(II)I" } : Jvm.MethodName)) ∈ gTb := gT_5 9 rfl rfl
theorem gw_970 : (Jvm.Cond.instanceMethod ({ cls := "LogDiskModel", name := "append", desc := "(II)I" } : Jvm.MethodName)) ∈ gTb := gT_5 10 rfl rfl
theorem gw_971 : (Jvm.Cond.selects "LogDiskModel" ({ cls := "LogDiskModel", name := "append", desc := "(II)I" } : Jvm.MethodName) ({ cls := "LogDiskModel", name := "append", desc := "(II)I" } : Jvm.MethodName)) ∈ gTb := gT_5 11 rfl rfl
theorem gw_972 : (Jvm.Cond.code ({ cls := "LogDiskModel", name := "append", desc := "(II)I" } : Jvm.MethodName) prog_12_method_27_code (7 : Nat) (Option.some Jvm.ClassFile.FieldType.int)) ∈ gTb := gT_5 12 rfl rfl
theorem gw_973 : (Jvm.Cond.methodLink "LogDiskModel" (172 : Nat) ({ cls := "LogDiskModel", name := "termOf", desc := "(I)I" } : Jvm.MethodName)) ∈ gTb := gT_5 13 rfl rfl
theorem gw_975 : (Jvm.Cond.instanceMethod ({ cls := "LogDiskModel", name := "termOf", desc := "(I)I" } : Jvm.MethodName)) ∈ gTb := gT_5 15 rfl rfl
theorem gw_976 : (Jvm.Cond.code ({ cls := "LogDiskModel", name := "termOf", desc := "(I)I" } : Jvm.MethodName) prog_12_method_25_code (2 : Nat) (Option.some Jvm.ClassFile.FieldType.int)) ∈ gTb := gT_5 16 rfl rfl
theorem gw_977 : (Jvm.Cond.methodLink "LogDiskModel" (178 : Nat) ({ cls := "LogDiskModel", name := "freeFile", desc := "()I" } : Jvm.MethodName)) ∈ gTb := gT_5 17 rfl rfl
theorem gw_979 : (Jvm.Cond.instanceMethod ({ cls := "LogDiskModel", name := "freeFile", desc := "()I" } : Jvm.MethodName)) ∈ gTb := gT_5 19 rfl rfl
theorem gw_980 : (Jvm.Cond.code ({ cls := "LogDiskModel", name := "freeFile", desc := "()I" } : Jvm.MethodName) prog_12_method_26_code (2 : Nat) (Option.some Jvm.ClassFile.FieldType.int)) ∈ gTb := gT_5 20 rfl rfl
theorem gw_981 : (Jvm.Cond.methodLink "LogDiskModel" (181 : Nat) ({ cls := "LogDiskModel", name := "hasRoom", desc := "(II)Z" } : Jvm.MethodName)) ∈ gTb := gT_5 21 rfl rfl
theorem gw_983 : (Jvm.Cond.instanceMethod ({ cls := "LogDiskModel", name := "hasRoom", desc := "(II)Z" } : Jvm.MethodName)) ∈ gTb := gT_5 23 rfl rfl
theorem gw_984 : (Jvm.Cond.code ({ cls := "LogDiskModel", name := "hasRoom", desc := "(II)Z" } : Jvm.MethodName) prog_12_method_16_code (3 : Nat) (Option.some Jvm.ClassFile.FieldType.boolean)) ∈ gTb := gT_5 24 rfl rfl
theorem gw_985 : (Jvm.Cond.methodLink "LogDiskModel" (108 : Nat) ({ cls := "LogDiskModel", name := "needed", desc := "(II)I" } : Jvm.MethodName)) ∈ gTb := gT_5 25 rfl rfl
theorem gw_987 : (Jvm.Cond.instanceMethod ({ cls := "LogDiskModel", name := "needed", desc := "(II)I" } : Jvm.MethodName)) ∈ gTb := gT_5 27 rfl rfl
theorem gw_988 : (Jvm.Cond.code ({ cls := "LogDiskModel", name := "needed", desc := "(II)I" } : Jvm.MethodName) prog_12_method_15_code (4 : Nat) (Option.some Jvm.ClassFile.FieldType.int)) ∈ gTb := gT_5 28 rfl rfl
theorem gw_989 : (Jvm.Cond.methodLink "LogDiskModel" (184 : Nat) ({ cls := "LogDiskModel", name := "fill", desc := "(II)V" } : Jvm.MethodName)) ∈ gTb := gT_5 29 rfl rfl
theorem gw_991 : (Jvm.Cond.instanceMethod ({ cls := "LogDiskModel", name := "fill", desc := "(II)V" } : Jvm.MethodName)) ∈ gTb := gT_5 31 rfl rfl
theorem gw_992 : (Jvm.Cond.code ({ cls := "LogDiskModel", name := "fill", desc := "(II)V" } : Jvm.MethodName) prog_12_method_6_code (4 : Nat) (Option.none : Option Jvm.ClassFile.FieldType)) ∈ gTb := gT_5 32 rfl rfl
theorem gw_993 : (Jvm.Cond.methodLink "LogDiskLaw" (97 : Nat) ({ cls := "LogDiskModel", name := "cutFrom", desc := "(I)I" } : Jvm.MethodName)) ∈ gTb := gT_5 33 rfl rfl
theorem gw_994 : (Jvm.Cond.instanceMethod ({ cls := "LogDiskModel", name := "cutFrom", desc := "(I)I" } : Jvm.MethodName)) ∈ gTb := gT_5 34 rfl rfl
theorem gw_995 : (Jvm.Cond.selects "LogDiskModel" ({ cls := "LogDiskModel", name := "cutFrom", desc := "(I)I" } : Jvm.MethodName) ({ cls := "LogDiskModel", name := "cutFrom", desc := "(I)I" } : Jvm.MethodName)) ∈ gTb := gT_5 35 rfl rfl
theorem gw_996 : (Jvm.Cond.code ({ cls := "LogDiskModel", name := "cutFrom", desc := "(I)I" } : Jvm.MethodName) prog_12_method_30_code (5 : Nat) (Option.some Jvm.ClassFile.FieldType.int)) ∈ gTb := gT_5 36 rfl rfl
theorem gw_997 : (Jvm.Cond.methodLink "LogDiskModel" (187 : Nat) ({ cls := "LogDiskModel", name := "firstOf", desc := "(I)I" } : Jvm.MethodName)) ∈ gTb := gT_5 37 rfl rfl
theorem gw_999 : (Jvm.Cond.instanceMethod ({ cls := "LogDiskModel", name := "firstOf", desc := "(I)I" } : Jvm.MethodName)) ∈ gTb := gT_5 39 rfl rfl
theorem gw_1000 : (Jvm.Cond.code ({ cls := "LogDiskModel", name := "firstOf", desc := "(I)I" } : Jvm.MethodName) prog_12_method_28_code (2 : Nat) (Option.some Jvm.ClassFile.FieldType.int)) ∈ gTb := gT_5 40 rfl rfl
theorem gw_1001 : (Jvm.Cond.methodLink "LogDiskModel" (190 : Nat) ({ cls := "LogDiskModel", name := "remove", desc := "(I)V" } : Jvm.MethodName)) ∈ gTb := gT_5 41 rfl rfl
theorem gw_1003 : (Jvm.Cond.instanceMethod ({ cls := "LogDiskModel", name := "remove", desc := "(I)V" } : Jvm.MethodName)) ∈ gTb := gT_5 43 rfl rfl
theorem gw_1004 : (Jvm.Cond.code ({ cls := "LogDiskModel", name := "remove", desc := "(I)V" } : Jvm.MethodName) prog_12_method_19_code (2 : Nat) (Option.none : Option Jvm.ClassFile.FieldType)) ∈ gTb := gT_5 44 rfl rfl
theorem gw_1005 : (Jvm.Cond.methodLink "LogDiskModel" (194 : Nat) ({ cls := "LogDiskModel", name := "placeIn", desc := "(II)I" } : Jvm.MethodName)) ∈ gTb := gT_5 45 rfl rfl
theorem gw_1007 : (Jvm.Cond.instanceMethod ({ cls := "LogDiskModel", name := "placeIn", desc := "(II)I" } : Jvm.MethodName)) ∈ gTb := gT_5 47 rfl rfl
theorem gw_1008 : (Jvm.Cond.code ({ cls := "LogDiskModel", name := "placeIn", desc := "(II)I" } : Jvm.MethodName) prog_12_method_29_code (5 : Nat) (Option.some Jvm.ClassFile.FieldType.int)) ∈ gTb := gT_5 48 rfl rfl
theorem gw_1009 : (Jvm.Cond.methodLink "LogDiskLaw" (100 : Nat) ({ cls := "LogDiskModel", name := "compact", desc := "(II)I" } : Jvm.MethodName)) ∈ gTb := gT_5 49 rfl rfl
theorem gw_1010 : (Jvm.Cond.instanceMethod ({ cls := "LogDiskModel", name := "compact", desc := "(II)I" } : Jvm.MethodName)) ∈ gTb := gT_5 50 rfl rfl
theorem gw_1011 : (Jvm.Cond.selects "LogDiskModel" ({ cls := "LogDiskModel", name := "compact", desc := "(II)I" } : Jvm.MethodName) ({ cls := "LogDiskModel", name := "compact", desc := "(II)I" } : Jvm.MethodName)) ∈ gTb := gT_5 51 rfl rfl
theorem gw_1012 : (Jvm.Cond.code ({ cls := "LogDiskModel", name := "compact", desc := "(II)I" } : Jvm.MethodName) prog_12_method_34_code (6 : Nat) (Option.some Jvm.ClassFile.FieldType.int)) ∈ gTb := gT_5 52 rfl rfl
theorem gw_1013 : (Jvm.Cond.methodLink "LogDiskModel" (203 : Nat) ({ cls := "LogDiskModel", name := "write", desc := "(IIII)Z" } : Jvm.MethodName)) ∈ gTb := gT_5 53 rfl rfl
theorem gw_1015 : (Jvm.Cond.instanceMethod ({ cls := "LogDiskModel", name := "write", desc := "(IIII)Z" } : Jvm.MethodName)) ∈ gTb := gT_5 55 rfl rfl
theorem gw_1016 : (Jvm.Cond.code ({ cls := "LogDiskModel", name := "write", desc := "(IIII)Z" } : Jvm.MethodName) prog_12_method_33_code (7 : Nat) (Option.some Jvm.ClassFile.FieldType.boolean)) ∈ gTb := gT_5 56 rfl rfl
theorem gw_1017 : (Jvm.Cond.methodLink "LogDiskModel" (200 : Nat) ({ cls := "LogDiskModel", name := "settle", desc := "(I)V" } : Jvm.MethodName)) ∈ gTb := gT_5 57 rfl rfl
theorem gw_1019 : (Jvm.Cond.instanceMethod ({ cls := "LogDiskModel", name := "settle", desc := "(I)V" } : Jvm.MethodName)) ∈ gTb := gT_5 59 rfl rfl
theorem gw_1020 : (Jvm.Cond.code ({ cls := "LogDiskModel", name := "settle", desc := "(I)V" } : Jvm.MethodName) prog_12_method_22_code (2 : Nat) (Option.none : Option Jvm.ClassFile.FieldType)) ∈ gTb := gT_5 60 rfl rfl
theorem gw_1021 : (Jvm.Cond.methodLink "LogDiskModel" (122 : Nat) ({ cls := "LogDiskModel", name := "copy", desc := "(II)V" } : Jvm.MethodName)) ∈ gTb := gT_5 61 rfl rfl
theorem gw_1023 : (Jvm.Cond.instanceMethod ({ cls := "LogDiskModel", name := "copy", desc := "(II)V" } : Jvm.MethodName)) ∈ gTb := gT_5 63 rfl rfl
theorem gw_1024 : (Jvm.Cond.code ({ cls := "LogDiskModel", name := "copy", desc := "(II)V" } : Jvm.MethodName) prog_12_method_21_code (4 : Nat) (Option.none : Option Jvm.ClassFile.FieldType)) ∈ gTb := gT_5 64 rfl rfl
theorem gw_1025 : (Jvm.Cond.methodLink "LogDiskModel" (207 : Nat) ({ cls := "LogDiskModel", name := "rebase", desc := "(II)V" } : Jvm.MethodName)) ∈ gTb := gT_5 65 rfl rfl
theorem gw_1027 : (Jvm.Cond.instanceMethod ({ cls := "LogDiskModel", name := "rebase", desc := "(II)V" } : Jvm.MethodName)) ∈ gTb := gT_5 67 rfl rfl
theorem gw_1028 : (Jvm.Cond.code ({ cls := "LogDiskModel", name := "rebase", desc := "(II)V" } : Jvm.MethodName) prog_12_method_32_code (5 : Nat) (Option.none : Option Jvm.ClassFile.FieldType)) ∈ gTb := gT_5 68 rfl rfl
theorem gw_1029 : (Jvm.Cond.methodLink "LogDiskModel" (197 : Nat) ({ cls := "LogDiskModel", name := "lastOf", desc := "(I)I" } : Jvm.MethodName)) ∈ gTb := gT_5 69 rfl rfl
theorem gw_1031 : (Jvm.Cond.instanceMethod ({ cls := "LogDiskModel", name := "lastOf", desc := "(I)I" } : Jvm.MethodName)) ∈ gTb := gT_5 71 rfl rfl
theorem gw_1032 : (Jvm.Cond.code ({ cls := "LogDiskModel", name := "lastOf", desc := "(I)I" } : Jvm.MethodName) prog_12_method_31_code (2 : Nat) (Option.some Jvm.ClassFile.FieldType.int)) ∈ gTb := gT_5 72 rfl rfl
theorem gw_1033 : (Jvm.Cond.methodLink "LogDiskLaw" (104 : Nat) ({ cls := "LogDiskModel", name := "take", desc := "(III)I" } : Jvm.MethodName)) ∈ gTb := gT_5 73 rfl rfl
theorem gw_1034 : (Jvm.Cond.instanceMethod ({ cls := "LogDiskModel", name := "take", desc := "(III)I" } : Jvm.MethodName)) ∈ gTb := gT_5 74 rfl rfl
theorem gw_1035 : (Jvm.Cond.selects "LogDiskModel" ({ cls := "LogDiskModel", name := "take", desc := "(III)I" } : Jvm.MethodName) ({ cls := "LogDiskModel", name := "take", desc := "(III)I" } : Jvm.MethodName)) ∈ gTb := gT_5 75 rfl rfl
theorem gw_1036 : (Jvm.Cond.code ({ cls := "LogDiskModel", name := "take", desc := "(III)I" } : Jvm.MethodName) prog_12_method_35_code (6 : Nat) (Option.some Jvm.ClassFile.FieldType.int)) ∈ gTb := gT_5 76 rfl rfl
theorem gw_1037 : (Jvm.Cond.methodLink "LogDiskLaw" (109 : Nat) ({ cls := "LogDiskModel", name := "sync", desc := "()Z" } : Jvm.MethodName)) ∈ gTb := gT_5 77 rfl rfl
theorem gw_1038 : (Jvm.Cond.instanceMethod ({ cls := "LogDiskModel", name := "sync", desc := "()Z" } : Jvm.MethodName)) ∈ gTb := gT_5 78 rfl rfl
theorem gw_1039 : (Jvm.Cond.selects "LogDiskModel" ({ cls := "LogDiskModel", name := "sync", desc := "()Z" } : Jvm.MethodName) ({ cls := "LogDiskModel", name := "sync", desc := "()Z" } : Jvm.MethodName)) ∈ gTb := gT_5 79 rfl rfl
theorem gw_1040 : (Jvm.Cond.code ({ cls := "LogDiskModel", name := "sync", desc := "()Z" } : Jvm.MethodName) prog_12_method_36_code (3 : Nat) (Option.some Jvm.ClassFile.FieldType.boolean)) ∈ gTb := gT_5 80 rfl rfl
theorem gw_1041 : (Jvm.Cond.methodLink "LogDiskLaw" (113 : Nat) ({ cls := "LogDiskModel", name := "keep", desc := "(II)V" } : Jvm.MethodName)) ∈ gTb := gT_5 81 rfl rfl
theorem gw_1042 : (Jvm.Cond.instanceMethod ({ cls := "LogDiskModel", name := "keep", desc := "(II)V" } : Jvm.MethodName)) ∈ gTb := gT_5 82 rfl rfl
theorem gw_1043 : (Jvm.Cond.selects "LogDiskModel" ({ cls := "LogDiskModel", name := "keep", desc := "(II)V" } : Jvm.MethodName) ({ cls := "LogDiskModel", name := "keep", desc := "(II)V" } : Jvm.MethodName)) ∈ gTb := gT_5 83 rfl rfl
theorem gw_1044 : (Jvm.Cond.code ({ cls := "LogDiskModel", name := "keep", desc := "(II)V" } : Jvm.MethodName) prog_12_method_37_code (3 : Nat) (Option.none : Option Jvm.ClassFile.FieldType)) ∈ gTb := gT_5 84 rfl rfl
theorem gw_1045 : (Jvm.Cond.methodLink "LogDiskLaw" (118 : Nat) ({ cls := "LogDiskModel", name := "crash", desc := "(J)I" } : Jvm.MethodName)) ∈ gTb := gT_5 85 rfl rfl
theorem gw_1046 : (Jvm.Cond.instanceMethod ({ cls := "LogDiskModel", name := "crash", desc := "(J)I" } : Jvm.MethodName)) ∈ gTb := gT_5 86 rfl rfl
theorem gw_1047 : (Jvm.Cond.selects "LogDiskModel" ({ cls := "LogDiskModel", name := "crash", desc := "(J)I" } : Jvm.MethodName) ({ cls := "LogDiskModel", name := "crash", desc := "(J)I" } : Jvm.MethodName)) ∈ gTb := gT_5 87 rfl rfl
theorem gw_1048 : (Jvm.Cond.code ({ cls := "LogDiskModel", name := "crash", desc := "(J)I" } : Jvm.MethodName) prog_12_method_46_code (9 : Nat) (Option.some Jvm.ClassFile.FieldType.int)) ∈ gTb := gT_5 88 rfl rfl
theorem gw_1049 : (Jvm.Cond.constantLong "LogDiskModel" (217 : Nat) (6364136223846793005 : Int64)) ∈ gTb := gT_5 89 rfl rfl
theorem gw_1050 : (Jvm.Cond.constantLong "LogDiskModel" (219 : Nat) (1442695040888963407 : Int64)) ∈ gTb := gT_5 90 rfl rfl
theorem gw_1051 : (Jvm.Cond.constantLong "LogDiskModel" (221 : Nat) (1048575 : Int64)) ∈ gTb := gT_5 91 rfl rfl
theorem gw_1052 : (Jvm.Cond.constantLong "LogDiskModel" (223 : Nat) (2 : Int64)) ∈ gTb := gT_5 92 rfl rfl
theorem gw_1053 : (Jvm.Cond.methodLink "LogDiskModel" (225 : Nat) ({ cls := "LogDiskModel", name := "crashFile", desc := "(II)V" } : Jvm.MethodName)) ∈ gTb := gT_5 93 rfl rfl
theorem gw_1055 : (Jvm.Cond.instanceMethod ({ cls := "LogDiskModel", name := "crashFile", desc := "(II)V" } : Jvm.MethodName)) ∈ gTb := gT_5 95 rfl rfl
theorem gw_1056 : (Jvm.Cond.code ({ cls := "LogDiskModel", name := "crashFile", desc := "(II)V" } : Jvm.MethodName) prog_12_method_38_code (3 : Nat) (Option.none : Option Jvm.ClassFile.FieldType)) ∈ gTb := gT_5 96 rfl rfl
theorem gw_1057 : (Jvm.Cond.methodLink "LogDiskModel" (228 : Nat) ({ cls := "LogDiskModel", name := "findSlots", desc := "()V" } : Jvm.MethodName)) ∈ gTb := gT_5 97 rfl rfl
theorem gw_1059 : (Jvm.Cond.instanceMethod ({ cls := "LogDiskModel", name := "findSlots", desc := "()V" } : Jvm.MethodName)) ∈ gTb := gT_5 99 rfl rfl
theorem gw_1060 : (Jvm.Cond.code ({ cls := "LogDiskModel", name := "findSlots", desc := "()V" } : Jvm.MethodName) prog_12_method_40_code (3 : Nat) (Option.none : Option Jvm.ClassFile.FieldType)) ∈ gTb := gT_5 100 rfl rfl
theorem gw_1061 : (Jvm.Cond.methodLink "LogDiskModel" (210 : Nat) ({ cls := "LogDiskModel", name := "whole", desc := "(I)I" } : Jvm.MethodName)) ∈ gTb := gT_5 101 rfl rfl
theorem gw_1063 : (Jvm.Cond.instanceMethod ({ cls := "LogDiskModel", name := "whole", desc := "(I)I" } : Jvm.MethodName)) ∈ gTb := gT_5 103 rfl rfl
theorem gw_1064 : (Jvm.Cond.code ({ cls := "LogDiskModel", name := "whole", desc := "(I)I" } : Jvm.MethodName) prog_12_method_39_code (5 : Nat) (Option.some Jvm.ClassFile.FieldType.int)) ∈ gTb := gT_5 104 rfl rfl
theorem gw_1065 : (Jvm.Cond.methodLink "LogDiskModel" (231 : Nat) ({ cls := "LogDiskModel", name := "findSnapshot", desc := "()V" } : Jvm.MethodName)) ∈ gTb := gT_5 105 rfl rfl
theorem gw_1067 : (Jvm.Cond.instanceMethod ({ cls := "LogDiskModel", name := "findSnapshot", desc := "()V" } : Jvm.MethodName)) ∈ gTb := gT_5 107 rfl rfl
theorem gw_1068 : (Jvm.Cond.code ({ cls := "LogDiskModel", name := "findSnapshot", desc := "()V" } : Jvm.MethodName) prog_12_method_41_code (3 : Nat) (Option.none : Option Jvm.ClassFile.FieldType)) ∈ gTb := gT_5 108 rfl rfl
theorem gw_1069 : (Jvm.Cond.methodLink "LogDiskModel" (234 : Nat) ({ cls := "LogDiskModel", name := "firstSegment", desc := "()I" } : Jvm.MethodName)) ∈ gTb := gT_5 109 rfl rfl
theorem gw_1071 : (Jvm.Cond.instanceMethod ({ cls := "LogDiskModel", name := "firstSegment", desc := "()I" } : Jvm.MethodName)) ∈ gTb := gT_5 111 rfl rfl
theorem gw_1072 : (Jvm.Cond.code ({ cls := "LogDiskModel", name := "firstSegment", desc := "()I" } : Jvm.MethodName) prog_12_method_42_code (3 : Nat) (Option.some Jvm.ClassFile.FieldType.int)) ∈ gTb := gT_5 112 rfl rfl
theorem gw_1073 : (Jvm.Cond.methodLink "LogDiskModel" (237 : Nat) ({ cls := "LogDiskModel", name := "join", desc := "(I)V" } : Jvm.MethodName)) ∈ gTb := gT_5 113 rfl rfl
theorem gw_1075 : (Jvm.Cond.instanceMethod ({ cls := "LogDiskModel", name := "join", desc := "(I)V" } : Jvm.MethodName)) ∈ gTb := gT_5 115 rfl rfl
theorem gw_1076 : (Jvm.Cond.code ({ cls := "LogDiskModel", name := "join", desc := "(I)V" } : Jvm.MethodName) prog_12_method_43_code (6 : Nat) (Option.none : Option Jvm.ClassFile.FieldType)) ∈ gTb := gT_5 116 rfl rfl
theorem gw_1077 : (Jvm.Cond.methodLink "LogDiskModel" (240 : Nat) ({ cls := "LogDiskModel", name := "nextSegment", desc := "()I" } : Jvm.MethodName)) ∈ gTb := gT_5 117 rfl rfl
theorem gw_1079 : (Jvm.Cond.instanceMethod ({ cls := "LogDiskModel", name := "nextSegment", desc := "()I" } : Jvm.MethodName)) ∈ gTb := gT_5 119 rfl rfl
theorem gw_1080 : (Jvm.Cond.code ({ cls := "LogDiskModel", name := "nextSegment", desc := "()I" } : Jvm.MethodName) prog_12_method_45_code (2 : Nat) (Option.some Jvm.ClassFile.FieldType.int)) ∈ gTb := gT_5 120 rfl rfl
theorem gw_1081 : (Jvm.Cond.methodLink "LogDiskModel" (213 : Nat) ({ cls := "LogDiskModel", name := "isJoined", desc := "(I)Z" } : Jvm.MethodName)) ∈ gTb := gT_5 121 rfl rfl
theorem gw_1083 : (Jvm.Cond.instanceMethod ({ cls := "LogDiskModel", name := "isJoined", desc := "(I)Z" } : Jvm.MethodName)) ∈ gTb := gT_5 123 rfl rfl
theorem gw_1084 : (Jvm.Cond.code ({ cls := "LogDiskModel", name := "isJoined", desc := "(I)Z" } : Jvm.MethodName) prog_12_method_44_code (4 : Nat) (Option.some Jvm.ClassFile.FieldType.boolean)) ∈ gTb := gT_5 124 rfl rfl
theorem gw_1085 : (Jvm.Cond.methodLink "LogDiskLaw" (121 : Nat) ({ cls := "LogDiskModel", name := "state", desc := "(I)I" } : Jvm.MethodName)) ∈ gTb := gT_5 125 rfl rfl
theorem gw_1086 : (Jvm.Cond.instanceMethod ({ cls := "LogDiskModel", name := "state", desc := "(I)I" } : Jvm.MethodName)) ∈ gTb := gT_5 126 rfl rfl
theorem gw_1087 : (Jvm.Cond.selects "LogDiskModel" ({ cls := "LogDiskModel", name := "state", desc := "(I)I" } : Jvm.MethodName) ({ cls := "LogDiskModel", name := "state", desc := "(I)I" } : Jvm.MethodName)) ∈ gTb := gT_5 127 rfl rfl
theorem gw_1088 : (Jvm.Cond.code ({ cls := "LogDiskModel", name := "state", desc := "(I)I" } : Jvm.MethodName) prog_12_method_47_code (2 : Nat) (Option.some Jvm.ClassFile.FieldType.int)) ∈ gTb := gT_5 128 rfl rfl
theorem gw_1089 : (Jvm.Cond.methodLink "LogDiskLaw" (124 : Nat) ({ cls := "LogDiskModel", name := "entry", desc := "(II)I" } : Jvm.MethodName)) ∈ gTb := gT_5 129 rfl rfl
theorem gw_1090 : (Jvm.Cond.instanceMethod ({ cls := "LogDiskModel", name := "entry", desc := "(II)I" } : Jvm.MethodName)) ∈ gTb := gT_5 130 rfl rfl
theorem gw_1091 : (Jvm.Cond.selects "LogDiskModel" ({ cls := "LogDiskModel", name := "entry", desc := "(II)I" } : Jvm.MethodName) ({ cls := "LogDiskModel", name := "entry", desc := "(II)I" } : Jvm.MethodName)) ∈ gTb := gT_5 131 rfl rfl
theorem gw_1092 : (Jvm.Cond.code ({ cls := "LogDiskModel", name := "entry", desc := "(II)I" } : Jvm.MethodName) prog_12_method_49_code (5 : Nat) (Option.some Jvm.ClassFile.FieldType.int)) ∈ gTb := gT_5 132 rfl rfl
theorem gw_1093 : (Jvm.Cond.methodLink "LogDiskModel" (243 : Nat) ({ cls := "LogDiskModel", name := "fileOf", desc := "(I)I" } : Jvm.MethodName)) ∈ gTb := gT_5 133 rfl rfl
theorem gw_1095 : (Jvm.Cond.instanceMethod ({ cls := "LogDiskModel", name := "fileOf", desc := "(I)I" } : Jvm.MethodName)) ∈ gTb := gT_5 135 rfl rfl
theorem gw_1096 : (Jvm.Cond.code ({ cls := "LogDiskModel", name := "fileOf", desc := "(I)I" } : Jvm.MethodName) prog_12_method_48_code (4 : Nat) (Option.some Jvm.ClassFile.FieldType.int)) ∈ gTb := gT_5 136 rfl rfl
theorem gw_1097 : (Jvm.Cond.methodLink "LogDiskLaw" (127 : Nat) ({ cls := "LogDiskModel", name := "contentAt", desc := "(II)I" } : Jvm.MethodName)) ∈ gTb := gT_5 137 rfl rfl
theorem gw_1098 : (Jvm.Cond.instanceMethod ({ cls := "LogDiskModel", name := "contentAt", desc := "(II)I" } : Jvm.MethodName)) ∈ gTb := gT_5 138 rfl rfl
theorem gw_1099 : (Jvm.Cond.selects "LogDiskModel" ({ cls := "LogDiskModel", name := "contentAt", desc := "(II)I" } : Jvm.MethodName) ({ cls := "LogDiskModel", name := "contentAt", desc := "(II)I" } : Jvm.MethodName)) ∈ gTb := gT_5 139 rfl rfl
theorem gw_1100 : (Jvm.Cond.code ({ cls := "LogDiskModel", name := "contentAt", desc := "(II)I" } : Jvm.MethodName) prog_12_method_50_code (4 : Nat) (Option.some Jvm.ClassFile.FieldType.int)) ∈ gTb := gT_5 140 rfl rfl
theorem gw_1101 : (Jvm.Cond.methodLink "LogDiskLaw" (130 : Nat) ({ cls := "LogDiskModel", name := "snapshotAt", desc := "(I)I" } : Jvm.MethodName)) ∈ gTb := gT_5 141 rfl rfl
theorem gw_1102 : (Jvm.Cond.instanceMethod ({ cls := "LogDiskModel", name := "snapshotAt", desc := "(I)I" } : Jvm.MethodName)) ∈ gTb := gT_5 142 rfl rfl
theorem gw_1103 : (Jvm.Cond.selects "LogDiskModel" ({ cls := "LogDiskModel", name := "snapshotAt", desc := "(I)I" } : Jvm.MethodName) ({ cls := "LogDiskModel", name := "snapshotAt", desc := "(I)I" } : Jvm.MethodName)) ∈ gTb := gT_5 143 rfl rfl
theorem gw_1104 : (Jvm.Cond.code ({ cls := "LogDiskModel", name := "snapshotAt", desc := "(I)I" } : Jvm.MethodName) prog_12_method_51_code (2 : Nat) (Option.some Jvm.ClassFile.FieldType.int)) ∈ gTb := gT_5 144 rfl rfl
theorem gw_1105 : (Jvm.Cond.methodLink "LogDiskLaw" (133 : Nat) ({ cls := "LogDiskModel", name := "segment", desc := "(II)I" } : Jvm.MethodName)) ∈ gTb := gT_5 145 rfl rfl
theorem gw_1106 : (Jvm.Cond.instanceMethod ({ cls := "LogDiskModel", name := "segment", desc := "(II)I" } : Jvm.MethodName)) ∈ gTb := gT_5 146 rfl rfl
theorem gw_1107 : (Jvm.Cond.selects "LogDiskModel" ({ cls := "LogDiskModel", name := "segment", desc := "(II)I" } : Jvm.MethodName) ({ cls := "LogDiskModel", name := "segment", desc := "(II)I" } : Jvm.MethodName)) ∈ gTb := gT_5 147 rfl rfl
theorem gw_1108 : (Jvm.Cond.code ({ cls := "LogDiskModel", name := "segment", desc := "(II)I" } : Jvm.MethodName) prog_12_method_52_code (3 : Nat) (Option.some Jvm.ClassFile.FieldType.int)) ∈ gTb := gT_5 148 rfl rfl
theorem gw_1109 : (Jvm.Cond.methodLink "LogDiskLaw" (136 : Nat) ({ cls := "LogDiskModel", name := "file", desc := "(II)I" } : Jvm.MethodName)) ∈ gTb := gT_5 149 rfl rfl
theorem gw_1110 : (Jvm.Cond.instanceMethod ({ cls := "LogDiskModel", name := "file", desc := "(II)I" } : Jvm.MethodName)) ∈ gTb := gT_5 150 rfl rfl
theorem gw_1111 : (Jvm.Cond.selects "LogDiskModel" ({ cls := "LogDiskModel", name := "file", desc := "(II)I" } : Jvm.MethodName) ({ cls := "LogDiskModel", name := "file", desc := "(II)I" } : Jvm.MethodName)) ∈ gTb := gT_5 151 rfl rfl
theorem gw_1112 : (Jvm.Cond.code ({ cls := "LogDiskModel", name := "file", desc := "(II)I" } : Jvm.MethodName) prog_12_method_53_code (3 : Nat) (Option.some Jvm.ClassFile.FieldType.int)) ∈ gTb := gT_5 152 rfl rfl
theorem gw_1113 : (Jvm.Cond.methodLink "LogDiskLaw" (139 : Nat) ({ cls := "LogDiskModel", name := "byteAt", desc := "(II)I" } : Jvm.MethodName)) ∈ gTb := gT_5 153 rfl rfl
theorem gw_1114 : (Jvm.Cond.instanceMethod ({ cls := "LogDiskModel", name := "byteAt", desc := "(II)I" } : Jvm.MethodName)) ∈ gTb := gT_5 154 rfl rfl
theorem gw_1115 : (Jvm.Cond.selects "LogDiskModel" ({ cls := "LogDiskModel", name := "byteAt", desc := "(II)I" } : Jvm.MethodName) ({ cls := "LogDiskModel", name := "byteAt", desc := "(II)I" } : Jvm.MethodName)) ∈ gTb := gT_5 155 rfl rfl
theorem gw_1116 : (Jvm.Cond.code ({ cls := "LogDiskModel", name := "byteAt", desc := "(II)I" } : Jvm.MethodName) prog_12_method_54_code (5 : Nat) (Option.some Jvm.ClassFile.FieldType.int)) ∈ gTb := gT_5 156 rfl rfl
theorem gw_1117 : (Jvm.Cond.methodLink "LogDiskModel" (246 : Nat) ({ cls := "LogDiskModel", name := "frameAt", desc := "(II)I" } : Jvm.MethodName)) ∈ gTb := gT_5 157 rfl rfl
theorem gw_1119 : (Jvm.Cond.instanceMethod ({ cls := "LogDiskModel", name := "frameAt", desc := "(II)I" } : Jvm.MethodName)) ∈ gTb := gT_5 159 rfl rfl
theorem gw_1120 : (Jvm.Cond.code ({ cls := "LogDiskModel", name := "frameAt", desc := "(II)I" } : Jvm.MethodName) prog_12_method_12_code (3 : Nat) (Option.some Jvm.ClassFile.FieldType.int)) ∈ gTb := gT_5 160 rfl rfl
theorem gw_1121 : (Jvm.Cond.methodLink "LogDiskModel" (102 : Nat) ({ cls := "LogDiskModel", name := "sumOf", desc := "(I)I" } : Jvm.MethodName)) ∈ gTb := gT_5 161 rfl rfl
theorem gw_1123 : (Jvm.Cond.instanceMethod ({ cls := "LogDiskModel", name := "sumOf", desc := "(I)I" } : Jvm.MethodName)) ∈ gTb := gT_5 163 rfl rfl
theorem gw_1124 : (Jvm.Cond.code ({ cls := "LogDiskModel", name := "sumOf", desc := "(I)I" } : Jvm.MethodName) prog_12_method_11_code (5 : Nat) (Option.some Jvm.ClassFile.FieldType.int)) ∈ gTb := gT_5 164 rfl rfl
theorem gw_1125 : (Jvm.Cond.methodLink "LogDiskModel" (97 : Nat) ({ cls := "LogDiskModel", name := "payloadAt", desc := "(II)I" } : Jvm.MethodName)) ∈ gTb := gT_5 165 rfl rfl
theorem gw_1127 : (Jvm.Cond.instanceMethod ({ cls := "LogDiskModel", name := "payloadAt", desc := "(II)I" } : Jvm.MethodName)) ∈ gTb := gT_5 167 rfl rfl
theorem gw_1128 : (Jvm.Cond.code ({ cls := "LogDiskModel", name := "payloadAt", desc := "(II)I" } : Jvm.MethodName) prog_12_method_10_code (3 : Nat) (Option.some Jvm.ClassFile.FieldType.int)) ∈ gTb := gT_5 168 rfl rfl
theorem gw_1129 : (Jvm.Cond.constant "LogDiskModel" (101 : Nat) (-306674912 : Int32)) ∈ gTb := gT_5 169 rfl rfl
theorem gw_1130 : (Jvm.Cond.constantLong "LogDiskLaw" (77 : Nat) (4294967295 : Int64)) ∈ gTb := gT_5 170 rfl rfl
theorem gw_1131 : (Jvm.Cond.arrayClass Jvm.ClassFile.FieldType.long) ∈ gTb := gT_5 171 rfl rfl
theorem gw_1132 : (Jvm.Cond.sameMethod "java/lang/Throwable" "java/lang/Throwable" "fillInStackTrace" "(I)Ljava/lang/Throwable;") ∈ gTb := gT_5 172 rfl rfl
end
section
/-! Classes: fields in the order of the slots. -/
def T_Content : u_T := fun k => match k with
  | 0 => ("LogDisk$Content", "row", "[I", true)
  | 1 => ("LogDisk$Content", "there", "Z", false)
  | _ => ("LogDisk$Content", "size", "I", false)
def ty_Content : Nat → FieldType := fun k => match k with
  | 0 => .array .int
  | 1 => .boolean
  | _ => .int
theorem nm_Content : ∀ a, a < 3 → ∀ b, b < 3 → a ≠ b → (T_Content a).2.1 ≠ (T_Content b).2.1 := by decide +kernel
theorem tyok_Content : ∀ k, k < 3 → parseFieldDescriptor (T_Content k).2.2.1 = some (ty_Content k) := by decide +kernel
theorem in_Content : ∀ w ∈ u_ws "LogDisk$Content" T_Content 3, w ∈ gTb := by
  intro w hw
  obtain ⟨k, hk, rfl⟩ := List.mem_map.mp hw
  have hk := List.mem_range.mp hk
  match k, hk with
  | 0, _ => exact gw_206
  | 1, _ => exact gw_208
  | 2, _ => exact gw_210
  | k + 3, h => omega
def T_DiskFile : u_T := fun k => match k with
  | 0 => ("LogDisk$DiskFile", "pages", "LLogDisk$Pages;", true)
  | 1 => ("LogDisk$DiskFile", "now", "LLogDisk$Content;", true)
  | 2 => ("LogDisk$DiskFile", "synced", "LLogDisk$Content;", true)
  | _ => ("LogDisk$DiskFile", "low", "I", false)
def ty_DiskFile : Nat → FieldType := fun k => match k with
  | 0 => .object "LogDisk$Pages"
  | 1 => .object "LogDisk$Content"
  | 2 => .object "LogDisk$Content"
  | _ => .int
theorem nm_DiskFile : ∀ a, a < 4 → ∀ b, b < 4 → a ≠ b → (T_DiskFile a).2.1 ≠ (T_DiskFile b).2.1 := by decide +kernel
theorem tyok_DiskFile : ∀ k, k < 4 → parseFieldDescriptor (T_DiskFile k).2.2.1 = some (ty_DiskFile k) := by decide +kernel
theorem in_DiskFile : ∀ w ∈ u_ws "LogDisk$DiskFile" T_DiskFile 4, w ∈ gTb := by
  intro w hw
  obtain ⟨k, hk, rfl⟩ := List.mem_map.mp hw
  have hk := List.mem_range.mp hk
  match k, hk with
  | 0, _ => exact gw_220
  | 1, _ => exact gw_222
  | 2, _ => exact gw_224
  | 3, _ => exact gw_226
  | k + 4, h => omega
def T_Entries : u_T := fun k => match k with
  | 0 => ("LogDisk$Entries", "file", "[I", true)
  | 1 => ("LogDisk$Entries", "start", "[I", true)
  | 2 => ("LogDisk$Entries", "term", "[I", true)
  | 3 => ("LogDisk$Entries", "kind", "[I", true)
  | _ => ("LogDisk$Entries", "bytes", "[I", true)
def ty_Entries : Nat → FieldType := fun k => match k with
  | 0 => .array .int
  | 1 => .array .int
  | 2 => .array .int
  | 3 => .array .int
  | _ => .array .int
theorem nm_Entries : ∀ a, a < 5 → ∀ b, b < 5 → a ≠ b → (T_Entries a).2.1 ≠ (T_Entries b).2.1 := by decide +kernel
theorem tyok_Entries : ∀ k, k < 5 → parseFieldDescriptor (T_Entries k).2.2.1 = some (ty_Entries k) := by decide +kernel
theorem in_Entries : ∀ w ∈ u_ws "LogDisk$Entries" T_Entries 5, w ∈ gTb := by
  intro w hw
  obtain ⟨k, hk, rfl⟩ := List.mem_map.mp hw
  have hk := List.mem_range.mp hk
  match k, hk with
  | 0, _ => exact gw_149
  | 1, _ => exact gw_151
  | 2, _ => exact gw_153
  | 3, _ => exact gw_155
  | 4, _ => exact gw_157
  | k + 5, h => omega
def T_Frame : u_T := fun k => match k with
  | 0 => ("LogDisk$Frame", "bytes", "[B", true)
  | _ => ("LogDisk$Frame", "size", "I", false)
def ty_Frame : Nat → FieldType := fun k => match k with
  | 0 => .array .byte
  | _ => .int
theorem nm_Frame : ∀ a, a < 2 → ∀ b, b < 2 → a ≠ b → (T_Frame a).2.1 ≠ (T_Frame b).2.1 := by decide +kernel
theorem tyok_Frame : ∀ k, k < 2 → parseFieldDescriptor (T_Frame k).2.2.1 = some (ty_Frame k) := by decide +kernel
theorem in_Frame : ∀ w ∈ u_ws "LogDisk$Frame" T_Frame 2, w ∈ gTb := by
  intro w hw
  obtain ⟨k, hk, rfl⟩ := List.mem_map.mp hw
  have hk := List.mem_range.mp hk
  match k, hk with
  | 0, _ => exact gw_59
  | 1, _ => exact gw_61
  | k + 2, h => omega
def T_Pages : u_T := fun k => match k with
  | 0 => ("LogDisk$Pages", "bytes", "[B", true)
  | 1 => ("LogDisk$Pages", "owners", "[I", true)
  | 2 => ("LogDisk$Pages", "unused", "[I", true)
  | _ => ("LogDisk$Pages", "unusedCount", "I", false)
def ty_Pages : Nat → FieldType := fun k => match k with
  | 0 => .array .byte
  | 1 => .array .int
  | 2 => .array .int
  | _ => .int
theorem nm_Pages : ∀ a, a < 4 → ∀ b, b < 4 → a ≠ b → (T_Pages a).2.1 ≠ (T_Pages b).2.1 := by decide +kernel
theorem tyok_Pages : ∀ k, k < 4 → parseFieldDescriptor (T_Pages k).2.2.1 = some (ty_Pages k) := by decide +kernel
theorem in_Pages : ∀ w ∈ u_ws "LogDisk$Pages" T_Pages 4, w ∈ gTb := by
  intro w hw
  obtain ⟨k, hk, rfl⟩ := List.mem_map.mp hw
  have hk := List.mem_range.mp hk
  match k, hk with
  | 0, _ => exact gw_178
  | 1, _ => exact gw_180
  | 2, _ => exact gw_182
  | 3, _ => exact gw_184
  | k + 4, h => omega
def T_Segments : u_T := fun k => match k with
  | 0 => ("LogDisk$Segments", "file", "[I", true)
  | 1 => ("LogDisk$Segments", "first", "[I", true)
  | _ => ("LogDisk$Segments", "count", "I", false)
def ty_Segments : Nat → FieldType := fun k => match k with
  | 0 => .array .int
  | 1 => .array .int
  | _ => .int
theorem nm_Segments : ∀ a, a < 3 → ∀ b, b < 3 → a ≠ b → (T_Segments a).2.1 ≠ (T_Segments b).2.1 := by decide +kernel
theorem tyok_Segments : ∀ k, k < 3 → parseFieldDescriptor (T_Segments k).2.2.1 = some (ty_Segments k) := by decide +kernel
theorem in_Segments : ∀ w ∈ u_ws "LogDisk$Segments" T_Segments 3, w ∈ gTb := by
  intro w hw
  obtain ⟨k, hk, rfl⟩ := List.mem_map.mp hw
  have hk := List.mem_range.mp hk
  match k, hk with
  | 0, _ => exact gw_126
  | 1, _ => exact gw_128
  | 2, _ => exact gw_130
  | k + 3, h => omega
def T_Snapshot : u_T := fun k => match k with
  | 0 => ("LogDisk$Snapshot", "file", "I", false)
  | 1 => ("LogDisk$Snapshot", "base", "I", false)
  | 2 => ("LogDisk$Snapshot", "term", "I", false)
  | _ => ("LogDisk$Snapshot", "code", "I", false)
def ty_Snapshot : Nat → FieldType := fun k => match k with
  | 0 => .int
  | 1 => .int
  | 2 => .int
  | _ => .int
theorem nm_Snapshot : ∀ a, a < 4 → ∀ b, b < 4 → a ≠ b → (T_Snapshot a).2.1 ≠ (T_Snapshot b).2.1 := by decide +kernel
theorem tyok_Snapshot : ∀ k, k < 4 → parseFieldDescriptor (T_Snapshot k).2.2.1 = some (ty_Snapshot k) := by decide +kernel
theorem in_Snapshot : ∀ w ∈ u_ws "LogDisk$Snapshot" T_Snapshot 4, w ∈ gTb := by
  intro w hw
  obtain ⟨k, hk, rfl⟩ := List.mem_map.mp hw
  have hk := List.mem_range.mp hk
  match k, hk with
  | 0, _ => exact gw_105
  | 1, _ => exact gw_107
  | 2, _ => exact gw_109
  | 3, _ => exact gw_111
  | k + 4, h => omega
def T_Tape : u_T := fun k => match k with
  | 0 => ("LogDisk$Tape", "bytes", "[B", true)
  | _ => ("LogDisk$Tape", "size", "I", false)
def ty_Tape : Nat → FieldType := fun k => match k with
  | 0 => .array .byte
  | _ => .int
theorem nm_Tape : ∀ a, a < 2 → ∀ b, b < 2 → a ≠ b → (T_Tape a).2.1 ≠ (T_Tape b).2.1 := by decide +kernel
theorem tyok_Tape : ∀ k, k < 2 → parseFieldDescriptor (T_Tape k).2.2.1 = some (ty_Tape k) := by decide +kernel
theorem in_Tape : ∀ w ∈ u_ws "LogDisk$Tape" T_Tape 2, w ∈ gTb := by
  intro w hw
  obtain ⟨k, hk, rfl⟩ := List.mem_map.mp hw
  have hk := List.mem_range.mp hk
  match k, hk with
  | 0, _ => exact gw_42
  | 1, _ => exact gw_44
  | k + 2, h => omega
def T_Vote : u_T := fun k => match k with
  | 0 => ("LogDisk$Vote", "term", "I", false)
  | 1 => ("LogDisk$Vote", "voted", "I", false)
  | 2 => ("LogDisk$Vote", "times", "J", false)
  | 3 => ("LogDisk$Vote", "file", "I", false)
  | _ => ("LogDisk$Vote", "fresh", "Z", false)
def ty_Vote : Nat → FieldType := fun k => match k with
  | 0 => .int
  | 1 => .int
  | 2 => .long
  | 3 => .int
  | _ => .boolean
theorem nm_Vote : ∀ a, a < 5 → ∀ b, b < 5 → a ≠ b → (T_Vote a).2.1 ≠ (T_Vote b).2.1 := by decide +kernel
theorem tyok_Vote : ∀ k, k < 5 → parseFieldDescriptor (T_Vote k).2.2.1 = some (ty_Vote k) := by decide +kernel
theorem in_Vote : ∀ w ∈ u_ws "LogDisk$Vote" T_Vote 5, w ∈ gTb := by
  intro w hw
  obtain ⟨k, hk, rfl⟩ := List.mem_map.mp hw
  have hk := List.mem_range.mp hk
  match k, hk with
  | 0, _ => exact gw_80
  | 1, _ => exact gw_82
  | 2, _ => exact gw_84
  | 3, _ => exact gw_86
  | 4, _ => exact gw_88
  | k + 5, h => omega
def T_LogDisk : u_T := fun k => match k with
  | 0 => ("LogDisk", "pages", "LLogDisk$Pages;", true)
  | 1 => ("LogDisk", "files", "[LLogDisk$DiskFile;", true)
  | 2 => ("LogDisk", "keeps", "[I", true)
  | 3 => ("LogDisk", "tape", "LLogDisk$Tape;", true)
  | 4 => ("LogDisk", "frame", "LLogDisk$Frame;", true)
  | 5 => ("LogDisk", "vote", "LLogDisk$Vote;", true)
  | 6 => ("LogDisk", "snapshot", "LLogDisk$Snapshot;", true)
  | 7 => ("LogDisk", "segments", "LLogDisk$Segments;", true)
  | 8 => ("LogDisk", "entries", "LLogDisk$Entries;", true)
  | 9 => ("LogDisk", "firstCode", "I", true)
  | 10 => ("LogDisk", "last", "I", false)
  | _ => ("LogDisk", "dirty", "Z", false)
def ty_LogDisk : Nat → FieldType := fun k => match k with
  | 0 => .object "LogDisk$Pages"
  | 1 => .array (.object "LogDisk$DiskFile")
  | 2 => .array .int
  | 3 => .object "LogDisk$Tape"
  | 4 => .object "LogDisk$Frame"
  | 5 => .object "LogDisk$Vote"
  | 6 => .object "LogDisk$Snapshot"
  | 7 => .object "LogDisk$Segments"
  | 8 => .object "LogDisk$Entries"
  | 9 => .int
  | 10 => .int
  | _ => .boolean
theorem nm_LogDisk : ∀ a, a < 12 → ∀ b, b < 12 → a ≠ b → (T_LogDisk a).2.1 ≠ (T_LogDisk b).2.1 := by decide +kernel
theorem tyok_LogDisk : ∀ k, k < 12 → parseFieldDescriptor (T_LogDisk k).2.2.1 = some (ty_LogDisk k) := by decide +kernel
theorem in_LogDisk : ∀ w ∈ u_ws "LogDisk" T_LogDisk 12, w ∈ gTb := by
  intro w hw
  obtain ⟨k, hk, rfl⟩ := List.mem_map.mp hw
  have hk := List.mem_range.mp hk
  match k, hk with
  | 0, _ => exact gw_241
  | 1, _ => exact gw_243
  | 2, _ => exact gw_245
  | 3, _ => exact gw_247
  | 4, _ => exact gw_249
  | 5, _ => exact gw_251
  | 6, _ => exact gw_253
  | 7, _ => exact gw_255
  | 8, _ => exact gw_257
  | 9, _ => exact gw_259
  | 10, _ => exact gw_261
  | 11, _ => exact gw_263
  | k + 12, h => omega
def T_Mo : u_T := fun k => match k with
  | 0 => ("LogDiskModel", "thrown", "I", false)
  | 1 => ("LogDiskModel", "limit", "I", true)
  | 2 => ("LogDiskModel", "firstCode", "I", true)
  | 3 => ("LogDiskModel", "frames", "I", false)
  | 4 => ("LogDiskModel", "sorts", "[I", true)
  | 5 => ("LogDiskModel", "as", "[I", true)
  | 6 => ("LogDiskModel", "bs", "[I", true)
  | 7 => ("LogDiskModel", "cs", "[I", true)
  | 8 => ("LogDiskModel", "froms", "[I", true)
  | 9 => ("LogDiskModel", "lengths", "[I", true)
  | 10 => ("LogDiskModel", "bytes", "[I", true)
  | 11 => ("LogDiskModel", "used", "I", false)
  | 12 => ("LogDiskModel", "rows", "[I", true)
  | 13 => ("LogDiskModel", "counts", "[I", true)
  | 14 => ("LogDiskModel", "sizes", "[I", true)
  | 15 => ("LogDiskModel", "there", "[Z", true)
  | 16 => ("LogDiskModel", "lows", "[I", true)
  | 17 => ("LogDiskModel", "shared", "[I", true)
  | 18 => ("LogDiskModel", "keeps", "[I", true)
  | 19 => ("LogDiskModel", "term", "I", false)
  | 20 => ("LogDiskModel", "voted", "I", false)
  | 21 => ("LogDiskModel", "times", "I", false)
  | 22 => ("LogDiskModel", "slot", "I", false)
  | 23 => ("LogDiskModel", "base", "I", false)
  | 24 => ("LogDiskModel", "baseTerm", "I", false)
  | 25 => ("LogDiskModel", "code", "I", false)
  | 26 => ("LogDiskModel", "snapshot", "I", false)
  | 27 => ("LogDiskModel", "last", "I", false)
  | 28 => ("LogDiskModel", "slotSince", "Z", false)
  | 29 => ("LogDiskModel", "dirty", "Z", false)
  | 30 => ("LogDiskModel", "segments", "I", false)
  | 31 => ("LogDiskModel", "order", "[I", true)
  | 32 => ("LogDiskModel", "entries", "[I", true)
  | 33 => ("LogDiskModel", "tape", "I", false)
  | _ => ("LogDiskModel", "fed", "[I", true)
def ty_Mo : Nat → FieldType := fun k => match k with
  | 0 => .int
  | 1 => .int
  | 2 => .int
  | 3 => .int
  | 4 => .array .int
  | 5 => .array .int
  | 6 => .array .int
  | 7 => .array .int
  | 8 => .array .int
  | 9 => .array .int
  | 10 => .array .int
  | 11 => .int
  | 12 => .array .int
  | 13 => .array .int
  | 14 => .array .int
  | 15 => .array .boolean
  | 16 => .array .int
  | 17 => .array .int
  | 18 => .array .int
  | 19 => .int
  | 20 => .int
  | 21 => .int
  | 22 => .int
  | 23 => .int
  | 24 => .int
  | 25 => .int
  | 26 => .int
  | 27 => .int
  | 28 => .boolean
  | 29 => .boolean
  | 30 => .int
  | 31 => .array .int
  | 32 => .array .int
  | 33 => .int
  | _ => .array .int
theorem nm_Mo : ∀ a, a < 35 → ∀ b, b < 35 → a ≠ b → (T_Mo a).2.1 ≠ (T_Mo b).2.1 := by decide +kernel
theorem tyok_Mo : ∀ k, k < 35 → parseFieldDescriptor (T_Mo k).2.2.1 = some (ty_Mo k) := by decide +kernel
theorem in_Mo : ∀ w ∈ u_ws "LogDiskModel" T_Mo 35, w ∈ gTb := by
  intro w hw
  obtain ⟨k, hk, rfl⟩ := List.mem_map.mp hw
  have hk := List.mem_range.mp hk
  match k, hk with
  | 0, _ => exact gw_842
  | 1, _ => exact gw_844
  | 2, _ => exact gw_846
  | 3, _ => exact gw_848
  | 4, _ => exact gw_850
  | 5, _ => exact gw_852
  | 6, _ => exact gw_854
  | 7, _ => exact gw_856
  | 8, _ => exact gw_858
  | 9, _ => exact gw_860
  | 10, _ => exact gw_862
  | 11, _ => exact gw_864
  | 12, _ => exact gw_866
  | 13, _ => exact gw_868
  | 14, _ => exact gw_870
  | 15, _ => exact gw_872
  | 16, _ => exact gw_874
  | 17, _ => exact gw_876
  | 18, _ => exact gw_878
  | 19, _ => exact gw_880
  | 20, _ => exact gw_882
  | 21, _ => exact gw_884
  | 22, _ => exact gw_886
  | 23, _ => exact gw_888
  | 24, _ => exact gw_890
  | 25, _ => exact gw_892
  | 26, _ => exact gw_894
  | 27, _ => exact gw_896
  | 28, _ => exact gw_898
  | 29, _ => exact gw_900
  | 30, _ => exact gw_902
  | 31, _ => exact gw_904
  | 32, _ => exact gw_906
  | 33, _ => exact gw_908
  | 34, _ => exact gw_910
  | k + 35, h => omega
abbrev gCl : List vw_C := [("LogDisk$Content", T_Content, 3), ("LogDisk$DiskFile", T_DiskFile, 4), ("LogDisk$Entries", T_Entries, 5), ("LogDisk$Frame", T_Frame, 2), ("LogDisk$Pages", T_Pages, 4), ("LogDisk$Segments", T_Segments, 3), ("LogDisk$Snapshot", T_Snapshot, 4), ("LogDisk$Tape", T_Tape, 2), ("LogDisk$Vote", T_Vote, 5), ("LogDisk", T_LogDisk, 12), ("LogDiskModel", T_Mo, 35)]
/-! Methods: code, name, words. -/
abbrev c_LogDisk_init : ByteArray := prog_1_method_1_code
abbrev y_LogDisk_init : MethodName := ⟨"LogDisk", "<init>", "(II)V"⟩
abbrev w_LogDisk_init : List Cond := Cond.code y_LogDisk_init c_LogDisk_init 6 (Option.none : Option Jvm.ClassFile.FieldType) :: gTb
abbrev c_LogDisk_feed : ByteArray := prog_1_method_2_code
abbrev y_LogDisk_feed : MethodName := ⟨"LogDisk", "feed", "(JI)I"⟩
abbrev w_LogDisk_feed : List Cond := Cond.code y_LogDisk_feed c_LogDisk_feed 5 (Option.some Jvm.ClassFile.FieldType.int) :: gTb
abbrev c_LogDisk_save : ByteArray := prog_1_method_3_code
abbrev y_LogDisk_save : MethodName := ⟨"LogDisk", "save", "(II)I"⟩
abbrev w_LogDisk_save : List Cond := Cond.code y_LogDisk_save c_LogDisk_save 4 (Option.some Jvm.ClassFile.FieldType.int) :: gTb
abbrev c_LogDisk_append : ByteArray := prog_1_method_4_code
abbrev y_LogDisk_append : MethodName := ⟨"LogDisk", "append", "(II)I"⟩
abbrev w_LogDisk_append : List Cond := Cond.code y_LogDisk_append c_LogDisk_append 7 (Option.some Jvm.ClassFile.FieldType.int) :: gTb
abbrev c_LogDisk_cutFrom : ByteArray := prog_1_method_5_code
abbrev y_LogDisk_cutFrom : MethodName := ⟨"LogDisk", "cutFrom", "(I)I"⟩
abbrev w_LogDisk_cutFrom : List Cond := Cond.code y_LogDisk_cutFrom c_LogDisk_cutFrom 4 (Option.some Jvm.ClassFile.FieldType.int) :: gTb
abbrev c_LogDisk_compact : ByteArray := prog_1_method_6_code
abbrev y_LogDisk_compact : MethodName := ⟨"LogDisk", "compact", "(II)I"⟩
abbrev w_LogDisk_compact : List Cond := Cond.code y_LogDisk_compact c_LogDisk_compact 5 (Option.some Jvm.ClassFile.FieldType.int) :: gTb
abbrev c_LogDisk_take : ByteArray := prog_1_method_7_code
abbrev y_LogDisk_take : MethodName := ⟨"LogDisk", "take", "(III)I"⟩
abbrev w_LogDisk_take : List Cond := Cond.code y_LogDisk_take c_LogDisk_take 5 (Option.some Jvm.ClassFile.FieldType.int) :: gTb
abbrev c_LogDisk_sync : ByteArray := prog_1_method_8_code
abbrev y_LogDisk_sync : MethodName := ⟨"LogDisk", "sync", "()Z"⟩
abbrev w_LogDisk_sync : List Cond := Cond.code y_LogDisk_sync c_LogDisk_sync 2 (Option.some Jvm.ClassFile.FieldType.boolean) :: gTb
abbrev c_LogDisk_keep : ByteArray := prog_1_method_9_code
abbrev y_LogDisk_keep : MethodName := ⟨"LogDisk", "keep", "(II)V"⟩
abbrev w_LogDisk_keep : List Cond := Cond.code y_LogDisk_keep c_LogDisk_keep 3 (Option.none : Option Jvm.ClassFile.FieldType) :: gTb
abbrev c_LogDisk_crash : ByteArray := prog_1_method_10_code
abbrev y_LogDisk_crash : MethodName := ⟨"LogDisk", "crash", "(J)I"⟩
abbrev w_LogDisk_crash : List Cond := Cond.code y_LogDisk_crash c_LogDisk_crash 3 (Option.some Jvm.ClassFile.FieldType.int) :: gTb
abbrev c_LogDisk_state : ByteArray := prog_1_method_11_code
abbrev y_LogDisk_state : MethodName := ⟨"LogDisk", "state", "(I)I"⟩
abbrev w_LogDisk_state : List Cond := Cond.code y_LogDisk_state c_LogDisk_state 2 (Option.some Jvm.ClassFile.FieldType.int) :: gTb
abbrev c_LogDisk_entry : ByteArray := prog_1_method_12_code
abbrev y_LogDisk_entry : MethodName := ⟨"LogDisk", "entry", "(II)I"⟩
abbrev w_LogDisk_entry : List Cond := Cond.code y_LogDisk_entry c_LogDisk_entry 4 (Option.some Jvm.ClassFile.FieldType.int) :: gTb
abbrev c_LogDisk_contentAt : ByteArray := prog_1_method_13_code
abbrev y_LogDisk_contentAt : MethodName := ⟨"LogDisk", "contentAt", "(II)I"⟩
abbrev w_LogDisk_contentAt : List Cond := Cond.code y_LogDisk_contentAt c_LogDisk_contentAt 4 (Option.some Jvm.ClassFile.FieldType.int) :: gTb
abbrev c_LogDisk_snapshotAt : ByteArray := prog_1_method_14_code
abbrev y_LogDisk_snapshotAt : MethodName := ⟨"LogDisk", "snapshotAt", "(I)I"⟩
abbrev w_LogDisk_snapshotAt : List Cond := Cond.code y_LogDisk_snapshotAt c_LogDisk_snapshotAt 2 (Option.some Jvm.ClassFile.FieldType.int) :: gTb
abbrev c_LogDisk_segment : ByteArray := prog_1_method_15_code
abbrev y_LogDisk_segment : MethodName := ⟨"LogDisk", "segment", "(II)I"⟩
abbrev w_LogDisk_segment : List Cond := Cond.code y_LogDisk_segment c_LogDisk_segment 3 (Option.some Jvm.ClassFile.FieldType.int) :: gTb
abbrev c_LogDisk_file : ByteArray := prog_1_method_16_code
abbrev y_LogDisk_file : MethodName := ⟨"LogDisk", "file", "(II)I"⟩
abbrev w_LogDisk_file : List Cond := Cond.code y_LogDisk_file c_LogDisk_file 4 (Option.some Jvm.ClassFile.FieldType.int) :: gTb
abbrev c_LogDisk_byteAt : ByteArray := prog_1_method_17_code
abbrev y_LogDisk_byteAt : MethodName := ⟨"LogDisk", "byteAt", "(II)I"⟩
abbrev w_LogDisk_byteAt : List Cond := Cond.code y_LogDisk_byteAt c_LogDisk_byteAt 3 (Option.some Jvm.ClassFile.FieldType.int) :: gTb
abbrev c_LogDisk_isFile : ByteArray := prog_1_method_18_code
abbrev y_LogDisk_isFile : MethodName := ⟨"LogDisk", "isFile", "(I)Z"⟩
abbrev w_LogDisk_isFile : List Cond := Cond.code y_LogDisk_isFile c_LogDisk_isFile 1 (Option.some Jvm.ClassFile.FieldType.boolean) :: gTb
abbrev c_LogDisk_isInLog : ByteArray := prog_1_method_19_code
abbrev y_LogDisk_isInLog : MethodName := ⟨"LogDisk", "isInLog", "(I)Z"⟩
abbrev w_LogDisk_isInLog : List Cond := Cond.code y_LogDisk_isInLog c_LogDisk_isInLog 2 (Option.some Jvm.ClassFile.FieldType.boolean) :: gTb
abbrev c_LogDisk_termAt : ByteArray := prog_1_method_20_code
abbrev y_LogDisk_termAt : MethodName := ⟨"LogDisk", "termAt", "(I)I"⟩
abbrev w_LogDisk_termAt : List Cond := Cond.code y_LogDisk_termAt c_LogDisk_termAt 2 (Option.some Jvm.ClassFile.FieldType.int) :: gTb
abbrev c_LogDisk_snapshotBytes : ByteArray := prog_1_method_21_code
abbrev y_LogDisk_snapshotBytes : MethodName := ⟨"LogDisk", "snapshotBytes", "()I"⟩
abbrev w_LogDisk_snapshotBytes : List Cond := Cond.code y_LogDisk_snapshotBytes c_LogDisk_snapshotBytes 1 (Option.some Jvm.ClassFile.FieldType.int) :: gTb
abbrev c_LogDisk_needsNewSegment : ByteArray := prog_1_method_22_code
abbrev y_LogDisk_needsNewSegment : MethodName := ⟨"LogDisk", "needsNewSegment", "()Z"⟩
abbrev w_LogDisk_needsNewSegment : List Cond := Cond.code y_LogDisk_needsNewSegment c_LogDisk_needsNewSegment 1 (Option.some Jvm.ClassFile.FieldType.boolean) :: gTb
abbrev c_LogDisk_lowestFreeFile : ByteArray := prog_1_method_23_code
abbrev y_LogDisk_lowestFreeFile : MethodName := ⟨"LogDisk", "lowestFreeFile", "()I"⟩
abbrev w_LogDisk_lowestFreeFile : List Cond := Cond.code y_LogDisk_lowestFreeFile c_LogDisk_lowestFreeFile 2 (Option.some Jvm.ClassFile.FieldType.int) :: gTb
abbrev c_LogDisk_writeVote : ByteArray := prog_1_method_24_code
abbrev y_LogDisk_writeVote : MethodName := ⟨"LogDisk", "writeVote", "()V"⟩
abbrev w_LogDisk_writeVote : List Cond := Cond.code y_LogDisk_writeVote c_LogDisk_writeVote 1 (Option.none : Option Jvm.ClassFile.FieldType) :: gTb
abbrev c_LogDisk_openSegment : ByteArray := prog_1_method_25_code
abbrev y_LogDisk_openSegment : MethodName := ⟨"LogDisk", "openSegment", "(I)V"⟩
abbrev w_LogDisk_openSegment : List Cond := Cond.code y_LogDisk_openSegment c_LogDisk_openSegment 2 (Option.none : Option Jvm.ClassFile.FieldType) :: gTb
abbrev c_LogDisk_writeEntry : ByteArray := prog_1_method_26_code
abbrev y_LogDisk_writeEntry : MethodName := ⟨"LogDisk", "writeEntry", "(IIII)V"⟩
abbrev w_LogDisk_writeEntry : List Cond := Cond.code y_LogDisk_writeEntry c_LogDisk_writeEntry 5 (Option.none : Option Jvm.ClassFile.FieldType) :: gTb
abbrev c_LogDisk_moveBase : ByteArray := prog_1_method_27_code
abbrev y_LogDisk_moveBase : MethodName := ⟨"LogDisk", "moveBase", "(IIII)V"⟩
abbrev w_LogDisk_moveBase : List Cond := Cond.code y_LogDisk_moveBase c_LogDisk_moveBase 6 (Option.none : Option Jvm.ClassFile.FieldType) :: gTb
abbrev c_LogDisk_dropSegments : ByteArray := prog_1_method_28_code
abbrev y_LogDisk_dropSegments : MethodName := ⟨"LogDisk", "dropSegments", "()V"⟩
abbrev w_LogDisk_dropSegments : List Cond := Cond.code y_LogDisk_dropSegments c_LogDisk_dropSegments 3 (Option.none : Option Jvm.ClassFile.FieldType) :: gTb
abbrev c_LogDisk_syncFiles : ByteArray := prog_1_method_29_code
abbrev y_LogDisk_syncFiles : MethodName := ⟨"LogDisk", "syncFiles", "()V"⟩
abbrev w_LogDisk_syncFiles : List Cond := Cond.code y_LogDisk_syncFiles c_LogDisk_syncFiles 2 (Option.none : Option Jvm.ClassFile.FieldType) :: gTb
abbrev c_LogDisk_crashFiles : ByteArray := prog_1_method_30_code
abbrev y_LogDisk_crashFiles : MethodName := ⟨"LogDisk", "crashFiles", "(J)V"⟩
abbrev w_LogDisk_crashFiles : List Cond := Cond.code y_LogDisk_crashFiles c_LogDisk_crashFiles 7 (Option.none : Option Jvm.ClassFile.FieldType) :: gTb
abbrev c_LogDisk_findVote : ByteArray := prog_1_method_31_code
abbrev y_LogDisk_findVote : MethodName := ⟨"LogDisk", "findVote", "()V"⟩
abbrev w_LogDisk_findVote : List Cond := Cond.code y_LogDisk_findVote c_LogDisk_findVote 5 (Option.none : Option Jvm.ClassFile.FieldType) :: gTb
abbrev c_LogDisk_findSnapshot : ByteArray := prog_1_method_32_code
abbrev y_LogDisk_findSnapshot : MethodName := ⟨"LogDisk", "findSnapshot", "()V"⟩
abbrev w_LogDisk_findSnapshot : List Cond := Cond.code y_LogDisk_findSnapshot c_LogDisk_findSnapshot 5 (Option.none : Option Jvm.ClassFile.FieldType) :: gTb
abbrev c_LogDisk_findLog : ByteArray := prog_1_method_33_code
abbrev y_LogDisk_findLog : MethodName := ⟨"LogDisk", "findLog", "()V"⟩
abbrev w_LogDisk_findLog : List Cond := Cond.code y_LogDisk_findLog c_LogDisk_findLog 4 (Option.none : Option Jvm.ClassFile.FieldType) :: gTb
abbrev c_LogDisk_followSegments : ByteArray := prog_1_method_34_code
abbrev y_LogDisk_followSegments : MethodName := ⟨"LogDisk", "followSegments", "(II)V"⟩
abbrev w_LogDisk_followSegments : List Cond := Cond.code y_LogDisk_followSegments c_LogDisk_followSegments 7 (Option.none : Option Jvm.ClassFile.FieldType) :: gTb
abbrev c_LogDisk_firstSegment : ByteArray := prog_1_method_35_code
abbrev y_LogDisk_firstSegment : MethodName := ⟨"LogDisk", "firstSegment", "()I"⟩
abbrev w_LogDisk_firstSegment : List Cond := Cond.code y_LogDisk_firstSegment c_LogDisk_firstSegment 5 (Option.some Jvm.ClassFile.FieldType.int) :: gTb
abbrev c_LogDisk_segmentBehind : ByteArray := prog_1_method_36_code
abbrev y_LogDisk_segmentBehind : MethodName := ⟨"LogDisk", "segmentBehind", "(II)I"⟩
abbrev w_LogDisk_segmentBehind : List Cond := Cond.code y_LogDisk_segmentBehind c_LogDisk_segmentBehind 4 (Option.some Jvm.ClassFile.FieldType.int) :: gTb
abbrev c_LogDisk_readSegment : ByteArray := prog_1_method_37_code
abbrev y_LogDisk_readSegment : MethodName := ⟨"LogDisk", "readSegment", "(I)I"⟩
abbrev w_LogDisk_readSegment : List Cond := Cond.code y_LogDisk_readSegment c_LogDisk_readSegment 8 (Option.some Jvm.ClassFile.FieldType.int) :: gTb
abbrev c_LogDisk_holdsBase : ByteArray := prog_1_method_38_code
abbrev y_LogDisk_holdsBase : MethodName := ⟨"LogDisk", "holdsBase", "(II)Z"⟩
abbrev w_LogDisk_holdsBase : List Cond := Cond.code y_LogDisk_holdsBase c_LogDisk_holdsBase 3 (Option.some Jvm.ClassFile.FieldType.boolean) :: gTb
abbrev c_LogDisk_pagesFor : ByteArray := prog_1_method_39_code
abbrev y_LogDisk_pagesFor : MethodName := ⟨"LogDisk", "pagesFor", "(I)I"⟩
abbrev w_LogDisk_pagesFor : List Cond := Cond.code y_LogDisk_pagesFor c_LogDisk_pagesFor 1 (Option.some Jvm.ClassFile.FieldType.int) :: gTb
abbrev c_LogDisk_sumStep : ByteArray := prog_1_method_40_code
abbrev y_LogDisk_sumStep : MethodName := ⟨"LogDisk", "sumStep", "(II)I"⟩
abbrev w_LogDisk_sumStep : List Cond := Cond.code y_LogDisk_sumStep c_LogDisk_sumStep 3 (Option.some Jvm.ClassFile.FieldType.int) :: gTb
abbrev c_Mo_init : ByteArray := prog_12_method_1_code
abbrev y_Mo_init : MethodName := ⟨"LogDiskModel", "<init>", "(II)V"⟩
abbrev w_Mo_init : List Cond := Cond.code y_Mo_init c_Mo_init 4 (Option.none : Option Jvm.ClassFile.FieldType) :: gTb
abbrev c_Mo_thrown : ByteArray := prog_12_method_2_code
abbrev y_Mo_thrown : MethodName := ⟨"LogDiskModel", "thrown", "()I"⟩
abbrev w_Mo_thrown : List Cond := Cond.code y_Mo_thrown c_Mo_thrown 1 (Option.some Jvm.ClassFile.FieldType.int) :: gTb
abbrev c_Mo_fail : ByteArray := prog_12_method_3_code
abbrev y_Mo_fail : MethodName := ⟨"LogDiskModel", "fail", "(I)I"⟩
abbrev w_Mo_fail : List Cond := Cond.code y_Mo_fail c_Mo_fail 2 (Option.some Jvm.ClassFile.FieldType.int) :: gTb
abbrev c_Mo_within : ByteArray := prog_12_method_4_code
abbrev y_Mo_within : MethodName := ⟨"LogDiskModel", "within", "(III)Z"⟩
abbrev w_Mo_within : List Cond := Cond.code y_Mo_within c_Mo_within 3 (Option.some Jvm.ClassFile.FieldType.boolean) :: gTb
abbrev c_Mo_make : ByteArray := prog_12_method_5_code
abbrev y_Mo_make : MethodName := ⟨"LogDiskModel", "make", "(IIII)I"⟩
abbrev w_Mo_make : List Cond := Cond.code y_Mo_make c_Mo_make 6 (Option.some Jvm.ClassFile.FieldType.int) :: gTb
abbrev c_Mo_fill : ByteArray := prog_12_method_6_code
abbrev y_Mo_fill : MethodName := ⟨"LogDiskModel", "fill", "(II)V"⟩
abbrev w_Mo_fill : List Cond := Cond.code y_Mo_fill c_Mo_fill 4 (Option.none : Option Jvm.ClassFile.FieldType) :: gTb
abbrev c_Mo_payload : ByteArray := prog_12_method_7_code
abbrev y_Mo_payload : MethodName := ⟨"LogDiskModel", "payload", "(I)I"⟩
abbrev w_Mo_payload : List Cond := Cond.code y_Mo_payload c_Mo_payload 2 (Option.some Jvm.ClassFile.FieldType.int) :: gTb
abbrev c_Mo_space : ByteArray := prog_12_method_8_code
abbrev y_Mo_space : MethodName := ⟨"LogDiskModel", "space", "(I)I"⟩
abbrev w_Mo_space : List Cond := Cond.code y_Mo_space c_Mo_space 2 (Option.some Jvm.ClassFile.FieldType.int) :: gTb
abbrev c_Mo_byteOf : ByteArray := prog_12_method_9_code
abbrev y_Mo_byteOf : MethodName := ⟨"LogDiskModel", "byteOf", "(JI)I"⟩
abbrev w_Mo_byteOf : List Cond := Cond.code y_Mo_byteOf c_Mo_byteOf 3 (Option.some Jvm.ClassFile.FieldType.int) :: gTb
abbrev c_Mo_payloadAt : ByteArray := prog_12_method_10_code
abbrev y_Mo_payloadAt : MethodName := ⟨"LogDiskModel", "payloadAt", "(II)I"⟩
abbrev w_Mo_payloadAt : List Cond := Cond.code y_Mo_payloadAt c_Mo_payloadAt 3 (Option.some Jvm.ClassFile.FieldType.int) :: gTb
abbrev c_Mo_sumOf : ByteArray := prog_12_method_11_code
abbrev y_Mo_sumOf : MethodName := ⟨"LogDiskModel", "sumOf", "(I)I"⟩
abbrev w_Mo_sumOf : List Cond := Cond.code y_Mo_sumOf c_Mo_sumOf 5 (Option.some Jvm.ClassFile.FieldType.int) :: gTb
abbrev c_Mo_frameAt : ByteArray := prog_12_method_12_code
abbrev y_Mo_frameAt : MethodName := ⟨"LogDiskModel", "frameAt", "(II)I"⟩
abbrev w_Mo_frameAt : List Cond := Cond.code y_Mo_frameAt c_Mo_frameAt 3 (Option.some Jvm.ClassFile.FieldType.int) :: gTb
abbrev c_Mo_pages : ByteArray := prog_12_method_13_code
abbrev y_Mo_pages : MethodName := ⟨"LogDiskModel", "pages", "(I)I"⟩
abbrev w_Mo_pages : List Cond := Cond.code y_Mo_pages c_Mo_pages 1 (Option.some Jvm.ClassFile.FieldType.int) :: gTb
abbrev c_Mo_pagesUsed : ByteArray := prog_12_method_14_code
abbrev y_Mo_pagesUsed : MethodName := ⟨"LogDiskModel", "pagesUsed", "()I"⟩
abbrev w_Mo_pagesUsed : List Cond := Cond.code y_Mo_pagesUsed c_Mo_pagesUsed 3 (Option.some Jvm.ClassFile.FieldType.int) :: gTb
abbrev c_Mo_needed : ByteArray := prog_12_method_15_code
abbrev y_Mo_needed : MethodName := ⟨"LogDiskModel", "needed", "(II)I"⟩
abbrev w_Mo_needed : List Cond := Cond.code y_Mo_needed c_Mo_needed 4 (Option.some Jvm.ClassFile.FieldType.int) :: gTb
abbrev c_Mo_hasRoom : ByteArray := prog_12_method_16_code
abbrev y_Mo_hasRoom : MethodName := ⟨"LogDiskModel", "hasRoom", "(II)Z"⟩
abbrev w_Mo_hasRoom : List Cond := Cond.code y_Mo_hasRoom c_Mo_hasRoom 3 (Option.some Jvm.ClassFile.FieldType.boolean) :: gTb
abbrev c_Mo_hasRoomAnew : ByteArray := prog_12_method_17_code
abbrev y_Mo_hasRoomAnew : MethodName := ⟨"LogDiskModel", "hasRoomAnew", "(II)Z"⟩
abbrev w_Mo_hasRoomAnew : List Cond := Cond.code y_Mo_hasRoomAnew c_Mo_hasRoomAnew 4 (Option.some Jvm.ClassFile.FieldType.boolean) :: gTb
abbrev c_Mo_cut : ByteArray := prog_12_method_18_code
abbrev y_Mo_cut : MethodName := ⟨"LogDiskModel", "cut", "(II)V"⟩
abbrev w_Mo_cut : List Cond := Cond.code y_Mo_cut c_Mo_cut 5 (Option.none : Option Jvm.ClassFile.FieldType) :: gTb
abbrev c_Mo_remove : ByteArray := prog_12_method_19_code
abbrev y_Mo_remove : MethodName := ⟨"LogDiskModel", "remove", "(I)V"⟩
abbrev w_Mo_remove : List Cond := Cond.code y_Mo_remove c_Mo_remove 2 (Option.none : Option Jvm.ClassFile.FieldType) :: gTb
abbrev c_Mo_put : ByteArray := prog_12_method_20_code
abbrev y_Mo_put : MethodName := ⟨"LogDiskModel", "put", "(II)V"⟩
abbrev w_Mo_put : List Cond := Cond.code y_Mo_put c_Mo_put 3 (Option.none : Option Jvm.ClassFile.FieldType) :: gTb
abbrev c_Mo_copy : ByteArray := prog_12_method_21_code
abbrev y_Mo_copy : MethodName := ⟨"LogDiskModel", "copy", "(II)V"⟩
abbrev w_Mo_copy : List Cond := Cond.code y_Mo_copy c_Mo_copy 4 (Option.none : Option Jvm.ClassFile.FieldType) :: gTb
abbrev c_Mo_settle : ByteArray := prog_12_method_22_code
abbrev y_Mo_settle : MethodName := ⟨"LogDiskModel", "settle", "(I)V"⟩
abbrev w_Mo_settle : List Cond := Cond.code y_Mo_settle c_Mo_settle 2 (Option.none : Option Jvm.ClassFile.FieldType) :: gTb
abbrev c_Mo_feed : ByteArray := prog_12_method_23_code
abbrev y_Mo_feed : MethodName := ⟨"LogDiskModel", "feed", "(JI)I"⟩
abbrev w_Mo_feed : List Cond := Cond.code y_Mo_feed c_Mo_feed 5 (Option.some Jvm.ClassFile.FieldType.int) :: gTb
abbrev c_Mo_save : ByteArray := prog_12_method_24_code
abbrev y_Mo_save : MethodName := ⟨"LogDiskModel", "save", "(II)I"⟩
abbrev w_Mo_save : List Cond := Cond.code y_Mo_save c_Mo_save 5 (Option.some Jvm.ClassFile.FieldType.int) :: gTb
abbrev c_Mo_termOf : ByteArray := prog_12_method_25_code
abbrev y_Mo_termOf : MethodName := ⟨"LogDiskModel", "termOf", "(I)I"⟩
abbrev w_Mo_termOf : List Cond := Cond.code y_Mo_termOf c_Mo_termOf 2 (Option.some Jvm.ClassFile.FieldType.int) :: gTb
abbrev c_Mo_freeFile : ByteArray := prog_12_method_26_code
abbrev y_Mo_freeFile : MethodName := ⟨"LogDiskModel", "freeFile", "()I"⟩
abbrev w_Mo_freeFile : List Cond := Cond.code y_Mo_freeFile c_Mo_freeFile 2 (Option.some Jvm.ClassFile.FieldType.int) :: gTb
abbrev c_Mo_append : ByteArray := prog_12_method_27_code
abbrev y_Mo_append : MethodName := ⟨"LogDiskModel", "append", "(II)I"⟩
abbrev w_Mo_append : List Cond := Cond.code y_Mo_append c_Mo_append 7 (Option.some Jvm.ClassFile.FieldType.int) :: gTb
abbrev c_Mo_firstOf : ByteArray := prog_12_method_28_code
abbrev y_Mo_firstOf : MethodName := ⟨"LogDiskModel", "firstOf", "(I)I"⟩
abbrev w_Mo_firstOf : List Cond := Cond.code y_Mo_firstOf c_Mo_firstOf 2 (Option.some Jvm.ClassFile.FieldType.int) :: gTb
abbrev c_Mo_placeIn : ByteArray := prog_12_method_29_code
abbrev y_Mo_placeIn : MethodName := ⟨"LogDiskModel", "placeIn", "(II)I"⟩
abbrev w_Mo_placeIn : List Cond := Cond.code y_Mo_placeIn c_Mo_placeIn 5 (Option.some Jvm.ClassFile.FieldType.int) :: gTb
abbrev c_Mo_cutFrom : ByteArray := prog_12_method_30_code
abbrev y_Mo_cutFrom : MethodName := ⟨"LogDiskModel", "cutFrom", "(I)I"⟩
abbrev w_Mo_cutFrom : List Cond := Cond.code y_Mo_cutFrom c_Mo_cutFrom 5 (Option.some Jvm.ClassFile.FieldType.int) :: gTb
abbrev c_Mo_lastOf : ByteArray := prog_12_method_31_code
abbrev y_Mo_lastOf : MethodName := ⟨"LogDiskModel", "lastOf", "(I)I"⟩
abbrev w_Mo_lastOf : List Cond := Cond.code y_Mo_lastOf c_Mo_lastOf 2 (Option.some Jvm.ClassFile.FieldType.int) :: gTb
abbrev c_Mo_rebase : ByteArray := prog_12_method_32_code
abbrev y_Mo_rebase : MethodName := ⟨"LogDiskModel", "rebase", "(II)V"⟩
abbrev w_Mo_rebase : List Cond := Cond.code y_Mo_rebase c_Mo_rebase 5 (Option.none : Option Jvm.ClassFile.FieldType) :: gTb
abbrev c_Mo_write : ByteArray := prog_12_method_33_code
abbrev y_Mo_write : MethodName := ⟨"LogDiskModel", "write", "(IIII)Z"⟩
abbrev w_Mo_write : List Cond := Cond.code y_Mo_write c_Mo_write 7 (Option.some Jvm.ClassFile.FieldType.boolean) :: gTb
abbrev c_Mo_compact : ByteArray := prog_12_method_34_code
abbrev y_Mo_compact : MethodName := ⟨"LogDiskModel", "compact", "(II)I"⟩
abbrev w_Mo_compact : List Cond := Cond.code y_Mo_compact c_Mo_compact 6 (Option.some Jvm.ClassFile.FieldType.int) :: gTb
abbrev c_Mo_take : ByteArray := prog_12_method_35_code
abbrev y_Mo_take : MethodName := ⟨"LogDiskModel", "take", "(III)I"⟩
abbrev w_Mo_take : List Cond := Cond.code y_Mo_take c_Mo_take 6 (Option.some Jvm.ClassFile.FieldType.int) :: gTb
abbrev c_Mo_sync : ByteArray := prog_12_method_36_code
abbrev y_Mo_sync : MethodName := ⟨"LogDiskModel", "sync", "()Z"⟩
abbrev w_Mo_sync : List Cond := Cond.code y_Mo_sync c_Mo_sync 3 (Option.some Jvm.ClassFile.FieldType.boolean) :: gTb
abbrev c_Mo_keep : ByteArray := prog_12_method_37_code
abbrev y_Mo_keep : MethodName := ⟨"LogDiskModel", "keep", "(II)V"⟩
abbrev w_Mo_keep : List Cond := Cond.code y_Mo_keep c_Mo_keep 3 (Option.none : Option Jvm.ClassFile.FieldType) :: gTb
abbrev c_Mo_crashFile : ByteArray := prog_12_method_38_code
abbrev y_Mo_crashFile : MethodName := ⟨"LogDiskModel", "crashFile", "(II)V"⟩
abbrev w_Mo_crashFile : List Cond := Cond.code y_Mo_crashFile c_Mo_crashFile 3 (Option.none : Option Jvm.ClassFile.FieldType) :: gTb
abbrev c_Mo_whole : ByteArray := prog_12_method_39_code
abbrev y_Mo_whole : MethodName := ⟨"LogDiskModel", "whole", "(I)I"⟩
abbrev w_Mo_whole : List Cond := Cond.code y_Mo_whole c_Mo_whole 5 (Option.some Jvm.ClassFile.FieldType.int) :: gTb
abbrev c_Mo_findSlots : ByteArray := prog_12_method_40_code
abbrev y_Mo_findSlots : MethodName := ⟨"LogDiskModel", "findSlots", "()V"⟩
abbrev w_Mo_findSlots : List Cond := Cond.code y_Mo_findSlots c_Mo_findSlots 3 (Option.none : Option Jvm.ClassFile.FieldType) :: gTb
abbrev c_Mo_findSnapshot : ByteArray := prog_12_method_41_code
abbrev y_Mo_findSnapshot : MethodName := ⟨"LogDiskModel", "findSnapshot", "()V"⟩
abbrev w_Mo_findSnapshot : List Cond := Cond.code y_Mo_findSnapshot c_Mo_findSnapshot 3 (Option.none : Option Jvm.ClassFile.FieldType) :: gTb
abbrev c_Mo_firstSegment : ByteArray := prog_12_method_42_code
abbrev y_Mo_firstSegment : MethodName := ⟨"LogDiskModel", "firstSegment", "()I"⟩
abbrev w_Mo_firstSegment : List Cond := Cond.code y_Mo_firstSegment c_Mo_firstSegment 3 (Option.some Jvm.ClassFile.FieldType.int) :: gTb
abbrev c_Mo_join : ByteArray := prog_12_method_43_code
abbrev y_Mo_join : MethodName := ⟨"LogDiskModel", "join", "(I)V"⟩
abbrev w_Mo_join : List Cond := Cond.code y_Mo_join c_Mo_join 6 (Option.none : Option Jvm.ClassFile.FieldType) :: gTb
abbrev c_Mo_isJoined : ByteArray := prog_12_method_44_code
abbrev y_Mo_isJoined : MethodName := ⟨"LogDiskModel", "isJoined", "(I)Z"⟩
abbrev w_Mo_isJoined : List Cond := Cond.code y_Mo_isJoined c_Mo_isJoined 4 (Option.some Jvm.ClassFile.FieldType.boolean) :: gTb
abbrev c_Mo_nextSegment : ByteArray := prog_12_method_45_code
abbrev y_Mo_nextSegment : MethodName := ⟨"LogDiskModel", "nextSegment", "()I"⟩
abbrev w_Mo_nextSegment : List Cond := Cond.code y_Mo_nextSegment c_Mo_nextSegment 2 (Option.some Jvm.ClassFile.FieldType.int) :: gTb
abbrev c_Mo_crash : ByteArray := prog_12_method_46_code
abbrev y_Mo_crash : MethodName := ⟨"LogDiskModel", "crash", "(J)I"⟩
abbrev w_Mo_crash : List Cond := Cond.code y_Mo_crash c_Mo_crash 9 (Option.some Jvm.ClassFile.FieldType.int) :: gTb
abbrev c_Mo_state : ByteArray := prog_12_method_47_code
abbrev y_Mo_state : MethodName := ⟨"LogDiskModel", "state", "(I)I"⟩
abbrev w_Mo_state : List Cond := Cond.code y_Mo_state c_Mo_state 2 (Option.some Jvm.ClassFile.FieldType.int) :: gTb
abbrev c_Mo_fileOf : ByteArray := prog_12_method_48_code
abbrev y_Mo_fileOf : MethodName := ⟨"LogDiskModel", "fileOf", "(I)I"⟩
abbrev w_Mo_fileOf : List Cond := Cond.code y_Mo_fileOf c_Mo_fileOf 4 (Option.some Jvm.ClassFile.FieldType.int) :: gTb
abbrev c_Mo_entry : ByteArray := prog_12_method_49_code
abbrev y_Mo_entry : MethodName := ⟨"LogDiskModel", "entry", "(II)I"⟩
abbrev w_Mo_entry : List Cond := Cond.code y_Mo_entry c_Mo_entry 5 (Option.some Jvm.ClassFile.FieldType.int) :: gTb
abbrev c_Mo_contentAt : ByteArray := prog_12_method_50_code
abbrev y_Mo_contentAt : MethodName := ⟨"LogDiskModel", "contentAt", "(II)I"⟩
abbrev w_Mo_contentAt : List Cond := Cond.code y_Mo_contentAt c_Mo_contentAt 4 (Option.some Jvm.ClassFile.FieldType.int) :: gTb
abbrev c_Mo_snapshotAt : ByteArray := prog_12_method_51_code
abbrev y_Mo_snapshotAt : MethodName := ⟨"LogDiskModel", "snapshotAt", "(I)I"⟩
abbrev w_Mo_snapshotAt : List Cond := Cond.code y_Mo_snapshotAt c_Mo_snapshotAt 2 (Option.some Jvm.ClassFile.FieldType.int) :: gTb
abbrev c_Mo_segment : ByteArray := prog_12_method_52_code
abbrev y_Mo_segment : MethodName := ⟨"LogDiskModel", "segment", "(II)I"⟩
abbrev w_Mo_segment : List Cond := Cond.code y_Mo_segment c_Mo_segment 3 (Option.some Jvm.ClassFile.FieldType.int) :: gTb
abbrev c_Mo_file : ByteArray := prog_12_method_53_code
abbrev y_Mo_file : MethodName := ⟨"LogDiskModel", "file", "(II)I"⟩
abbrev w_Mo_file : List Cond := Cond.code y_Mo_file c_Mo_file 3 (Option.some Jvm.ClassFile.FieldType.int) :: gTb
abbrev c_Mo_byteAt : ByteArray := prog_12_method_54_code
abbrev y_Mo_byteAt : MethodName := ⟨"LogDiskModel", "byteAt", "(II)I"⟩
abbrev w_Mo_byteAt : List Cond := Cond.code y_Mo_byteAt c_Mo_byteAt 5 (Option.some Jvm.ClassFile.FieldType.int) :: gTb
abbrev c_Content_init : ByteArray := prog_2_method_1_code
abbrev y_Content_init : MethodName := ⟨"LogDisk$Content", "<init>", "(I)V"⟩
abbrev w_Content_init : List Cond := Cond.code y_Content_init c_Content_init 2 (Option.none : Option Jvm.ClassFile.FieldType) :: gTb
abbrev c_Content_shorten : ByteArray := prog_2_method_2_code
abbrev y_Content_shorten : MethodName := ⟨"LogDisk$Content", "shorten", "(ILLogDisk$Pages;)V"⟩
abbrev w_Content_shorten : List Cond := Cond.code y_Content_shorten c_Content_shorten 5 (Option.none : Option Jvm.ClassFile.FieldType) :: gTb
abbrev c_Content_become : ByteArray := prog_2_method_3_code
abbrev y_Content_become : MethodName := ⟨"LogDisk$Content", "become", "(LLogDisk$Content;LLogDisk$Pages;)V"⟩
abbrev w_Content_become : List Cond := Cond.code y_Content_become c_Content_become 5 (Option.none : Option Jvm.ClassFile.FieldType) :: gTb
abbrev c_DiskFile_init : ByteArray := prog_3_method_1_code
abbrev y_DiskFile_init : MethodName := ⟨"LogDisk$DiskFile", "<init>", "(LLogDisk$Pages;I)V"⟩
abbrev w_DiskFile_init : List Cond := Cond.code y_DiskFile_init c_DiskFile_init 3 (Option.none : Option Jvm.ClassFile.FieldType) :: gTb
abbrev c_DiskFile_isShared : ByteArray := prog_3_method_2_code
abbrev y_DiskFile_isShared : MethodName := ⟨"LogDisk$DiskFile", "isShared", "(I)Z"⟩
abbrev w_DiskFile_isShared : List Cond := Cond.code y_DiskFile_isShared c_DiskFile_isShared 2 (Option.some Jvm.ClassFile.FieldType.boolean) :: gTb
abbrev c_DiskFile_mustCopyLastPage : ByteArray := prog_3_method_3_code
abbrev y_DiskFile_mustCopyLastPage : MethodName := ⟨"LogDisk$DiskFile", "mustCopyLastPage", "()Z"⟩
abbrev w_DiskFile_mustCopyLastPage : List Cond := Cond.code y_DiskFile_mustCopyLastPage c_DiskFile_mustCopyLastPage 1 (Option.some Jvm.ClassFile.FieldType.boolean) :: gTb
abbrev c_DiskFile_canExtend : ByteArray := prog_3_method_4_code
abbrev y_DiskFile_canExtend : MethodName := ⟨"LogDisk$DiskFile", "canExtend", "(I)Z"⟩
abbrev w_DiskFile_canExtend : List Cond := Cond.code y_DiskFile_canExtend c_DiskFile_canExtend 4 (Option.some Jvm.ClassFile.FieldType.boolean) :: gTb
abbrev c_DiskFile_canRewrite : ByteArray := prog_3_method_5_code
abbrev y_DiskFile_canRewrite : MethodName := ⟨"LogDisk$DiskFile", "canRewrite", "(I)Z"⟩
abbrev w_DiskFile_canRewrite : List Cond := Cond.code y_DiskFile_canRewrite c_DiskFile_canRewrite 5 (Option.some Jvm.ClassFile.FieldType.boolean) :: gTb
abbrev c_DiskFile_write : ByteArray := prog_3_method_6_code
abbrev y_DiskFile_write : MethodName := ⟨"LogDisk$DiskFile", "write", "([BI)V"⟩
abbrev w_DiskFile_write : List Cond := Cond.code y_DiskFile_write c_DiskFile_write 8 (Option.none : Option Jvm.ClassFile.FieldType) :: gTb
abbrev c_DiskFile_copyLastPage : ByteArray := prog_3_method_7_code
abbrev y_DiskFile_copyLastPage : MethodName := ⟨"LogDisk$DiskFile", "copyLastPage", "()V"⟩
abbrev w_DiskFile_copyLastPage : List Cond := Cond.code y_DiskFile_copyLastPage c_DiskFile_copyLastPage 4 (Option.none : Option Jvm.ClassFile.FieldType) :: gTb
abbrev c_DiskFile_cutTo : ByteArray := prog_3_method_8_code
abbrev y_DiskFile_cutTo : MethodName := ⟨"LogDisk$DiskFile", "cutTo", "(I)V"⟩
abbrev w_DiskFile_cutTo : List Cond := Cond.code y_DiskFile_cutTo c_DiskFile_cutTo 2 (Option.none : Option Jvm.ClassFile.FieldType) :: gTb
abbrev c_DiskFile_remove : ByteArray := prog_3_method_9_code
abbrev y_DiskFile_remove : MethodName := ⟨"LogDisk$DiskFile", "remove", "()V"⟩
abbrev w_DiskFile_remove : List Cond := Cond.code y_DiskFile_remove c_DiskFile_remove 1 (Option.none : Option Jvm.ClassFile.FieldType) :: gTb
abbrev c_DiskFile_settle : ByteArray := prog_3_method_10_code
abbrev y_DiskFile_settle : MethodName := ⟨"LogDisk$DiskFile", "settle", "()V"⟩
abbrev w_DiskFile_settle : List Cond := Cond.code y_DiskFile_settle c_DiskFile_settle 1 (Option.none : Option Jvm.ClassFile.FieldType) :: gTb
abbrev c_DiskFile_drawnKeep : ByteArray := prog_3_method_11_code
abbrev y_DiskFile_drawnKeep : MethodName := ⟨"LogDisk$DiskFile", "drawnKeep", "(J)I"⟩
abbrev w_DiskFile_drawnKeep : List Cond := Cond.code y_DiskFile_drawnKeep c_DiskFile_drawnKeep 5 (Option.some Jvm.ClassFile.FieldType.int) :: gTb
abbrev c_DiskFile_fail : ByteArray := prog_3_method_12_code
abbrev y_DiskFile_fail : MethodName := ⟨"LogDisk$DiskFile", "fail", "(I)V"⟩
abbrev w_DiskFile_fail : List Cond := Cond.code y_DiskFile_fail c_DiskFile_fail 4 (Option.none : Option Jvm.ClassFile.FieldType) :: gTb
abbrev c_DiskFile_read : ByteArray := prog_3_method_13_code
abbrev y_DiskFile_read : MethodName := ⟨"LogDisk$DiskFile", "read", "(I)I"⟩
abbrev w_DiskFile_read : List Cond := Cond.code y_DiskFile_read c_DiskFile_read 2 (Option.some Jvm.ClassFile.FieldType.int) :: gTb
abbrev c_DiskFile_number : ByteArray := prog_3_method_14_code
abbrev y_DiskFile_number : MethodName := ⟨"LogDisk$DiskFile", "number", "(II)J"⟩
abbrev w_DiskFile_number : List Cond := Cond.code y_DiskFile_number c_DiskFile_number 6 (Option.some Jvm.ClassFile.FieldType.long) :: gTb
abbrev c_DiskFile_wholeFrame : ByteArray := prog_3_method_15_code
abbrev y_DiskFile_wholeFrame : MethodName := ⟨"LogDisk$DiskFile", "wholeFrame", "(I)I"⟩
abbrev w_DiskFile_wholeFrame : List Cond := Cond.code y_DiskFile_wholeFrame c_DiskFile_wholeFrame 6 (Option.some Jvm.ClassFile.FieldType.int) :: gTb
abbrev c_DiskFile_segmentFirst : ByteArray := prog_3_method_16_code
abbrev y_DiskFile_segmentFirst : MethodName := ⟨"LogDisk$DiskFile", "segmentFirst", "()I"⟩
abbrev w_DiskFile_segmentFirst : List Cond := Cond.code y_DiskFile_segmentFirst c_DiskFile_segmentFirst 1 (Option.some Jvm.ClassFile.FieldType.int) :: gTb
abbrev c_DiskFile_termBefore : ByteArray := prog_3_method_17_code
abbrev y_DiskFile_termBefore : MethodName := ⟨"LogDisk$DiskFile", "termBefore", "()I"⟩
abbrev w_DiskFile_termBefore : List Cond := Cond.code y_DiskFile_termBefore c_DiskFile_termBefore 1 (Option.some Jvm.ClassFile.FieldType.int) :: gTb
abbrev c_Entries_init : ByteArray := prog_4_method_1_code
abbrev y_Entries_init : MethodName := ⟨"LogDisk$Entries", "<init>", "()V"⟩
abbrev w_Entries_init : List Cond := Cond.code y_Entries_init c_Entries_init 1 (Option.none : Option Jvm.ClassFile.FieldType) :: gTb
abbrev c_Entries_slot : ByteArray := prog_4_method_2_code
abbrev y_Entries_slot : MethodName := ⟨"LogDisk$Entries", "slot", "(I)I"⟩
abbrev w_Entries_slot : List Cond := Cond.code y_Entries_slot c_Entries_slot 2 (Option.some Jvm.ClassFile.FieldType.int) :: gTb
abbrev c_Entries_set : ByteArray := prog_4_method_3_code
abbrev y_Entries_set : MethodName := ⟨"LogDisk$Entries", "set", "(IIIIII)V"⟩
abbrev w_Entries_set : List Cond := Cond.code y_Entries_set c_Entries_set 8 (Option.none : Option Jvm.ClassFile.FieldType) :: gTb
abbrev c_Frame_init : ByteArray := prog_5_method_1_code
abbrev y_Frame_init : MethodName := ⟨"LogDisk$Frame", "<init>", "()V"⟩
abbrev w_Frame_init : List Cond := Cond.code y_Frame_init c_Frame_init 1 (Option.none : Option Jvm.ClassFile.FieldType) :: gTb
abbrev c_Frame_begin : ByteArray := prog_5_method_2_code
abbrev y_Frame_begin : MethodName := ⟨"LogDisk$Frame", "begin", "()V"⟩
abbrev w_Frame_begin : List Cond := Cond.code y_Frame_begin c_Frame_begin 1 (Option.none : Option Jvm.ClassFile.FieldType) :: gTb
abbrev c_Frame_add : ByteArray := prog_5_method_3_code
abbrev y_Frame_add : MethodName := ⟨"LogDisk$Frame", "add", "(JI)V"⟩
abbrev w_Frame_add : List Cond := Cond.code y_Frame_add c_Frame_add 4 (Option.none : Option Jvm.ClassFile.FieldType) :: gTb
abbrev c_Frame_addBytes : ByteArray := prog_5_method_4_code
abbrev y_Frame_addBytes : MethodName := ⟨"LogDisk$Frame", "addBytes", "([BI)V"⟩
abbrev w_Frame_addBytes : List Cond := Cond.code y_Frame_addBytes c_Frame_addBytes 3 (Option.none : Option Jvm.ClassFile.FieldType) :: gTb
abbrev c_Frame_close : ByteArray := prog_5_method_5_code
abbrev y_Frame_close : MethodName := ⟨"LogDisk$Frame", "close", "()V"⟩
abbrev w_Frame_close : List Cond := Cond.code y_Frame_close c_Frame_close 3 (Option.none : Option Jvm.ClassFile.FieldType) :: gTb
abbrev c_Frame_put : ByteArray := prog_5_method_6_code
abbrev y_Frame_put : MethodName := ⟨"LogDisk$Frame", "put", "(IJI)V"⟩
abbrev w_Frame_put : List Cond := Cond.code y_Frame_put c_Frame_put 6 (Option.none : Option Jvm.ClassFile.FieldType) :: gTb
abbrev c_Pages_init : ByteArray := prog_6_method_1_code
abbrev y_Pages_init : MethodName := ⟨"LogDisk$Pages", "<init>", "(I)V"⟩
abbrev w_Pages_init : List Cond := Cond.code y_Pages_init c_Pages_init 3 (Option.none : Option Jvm.ClassFile.FieldType) :: gTb
abbrev c_Pages_used : ByteArray := prog_6_method_2_code
abbrev y_Pages_used : MethodName := ⟨"LogDisk$Pages", "used", "()I"⟩
abbrev w_Pages_used : List Cond := Cond.code y_Pages_used c_Pages_used 1 (Option.some Jvm.ClassFile.FieldType.int) :: gTb
abbrev c_Pages_seize : ByteArray := prog_6_method_3_code
abbrev y_Pages_seize : MethodName := ⟨"LogDisk$Pages", "seize", "()I"⟩
abbrev w_Pages_seize : List Cond := Cond.code y_Pages_seize c_Pages_seize 2 (Option.some Jvm.ClassFile.FieldType.int) :: gTb
abbrev c_Pages_share : ByteArray := prog_6_method_4_code
abbrev y_Pages_share : MethodName := ⟨"LogDisk$Pages", "share", "(I)V"⟩
abbrev w_Pages_share : List Cond := Cond.code y_Pages_share c_Pages_share 2 (Option.none : Option Jvm.ClassFile.FieldType) :: gTb
abbrev c_Pages_giveUp : ByteArray := prog_6_method_5_code
abbrev y_Pages_giveUp : MethodName := ⟨"LogDisk$Pages", "giveUp", "(I)V"⟩
abbrev w_Pages_giveUp : List Cond := Cond.code y_Pages_giveUp c_Pages_giveUp 2 (Option.none : Option Jvm.ClassFile.FieldType) :: gTb
abbrev c_Segments_init : ByteArray := prog_7_method_1_code
abbrev y_Segments_init : MethodName := ⟨"LogDisk$Segments", "<init>", "()V"⟩
abbrev w_Segments_init : List Cond := Cond.code y_Segments_init c_Segments_init 1 (Option.none : Option Jvm.ClassFile.FieldType) :: gTb
abbrev c_Segments_add : ByteArray := prog_7_method_2_code
abbrev y_Segments_add : MethodName := ⟨"LogDisk$Segments", "add", "(II)V"⟩
abbrev w_Segments_add : List Cond := Cond.code y_Segments_add c_Segments_add 3 (Option.none : Option Jvm.ClassFile.FieldType) :: gTb
abbrev c_Segments_lastFile : ByteArray := prog_7_method_3_code
abbrev y_Segments_lastFile : MethodName := ⟨"LogDisk$Segments", "lastFile", "()I"⟩
abbrev w_Segments_lastFile : List Cond := Cond.code y_Segments_lastFile c_Segments_lastFile 1 (Option.some Jvm.ClassFile.FieldType.int) :: gTb
abbrev c_Segments_has : ByteArray := prog_7_method_4_code
abbrev y_Segments_has : MethodName := ⟨"LogDisk$Segments", "has", "(I)Z"⟩
abbrev w_Segments_has : List Cond := Cond.code y_Segments_has c_Segments_has 3 (Option.some Jvm.ClassFile.FieldType.boolean) :: gTb
abbrev c_Segments_endedBy : ByteArray := prog_7_method_5_code
abbrev y_Segments_endedBy : MethodName := ⟨"LogDisk$Segments", "endedBy", "(I)I"⟩
abbrev w_Segments_endedBy : List Cond := Cond.code y_Segments_endedBy c_Segments_endedBy 4 (Option.some Jvm.ClassFile.FieldType.int) :: gTb
abbrev c_Segments_dropFront : ByteArray := prog_7_method_6_code
abbrev y_Segments_dropFront : MethodName := ⟨"LogDisk$Segments", "dropFront", "(I)V"⟩
abbrev w_Segments_dropFront : List Cond := Cond.code y_Segments_dropFront c_Segments_dropFront 3 (Option.none : Option Jvm.ClassFile.FieldType) :: gTb
abbrev c_Snapshot_init : ByteArray := prog_8_method_1_code
abbrev y_Snapshot_init : MethodName := ⟨"LogDisk$Snapshot", "<init>", "()V"⟩
abbrev w_Snapshot_init : List Cond := Cond.code y_Snapshot_init c_Snapshot_init 1 (Option.none : Option Jvm.ClassFile.FieldType) :: gTb
abbrev c_Snapshot_set : ByteArray := prog_8_method_2_code
abbrev y_Snapshot_set : MethodName := ⟨"LogDisk$Snapshot", "set", "(IIII)V"⟩
abbrev w_Snapshot_set : List Cond := Cond.code y_Snapshot_set c_Snapshot_set 5 (Option.none : Option Jvm.ClassFile.FieldType) :: gTb
abbrev c_Snapshot_nextFile : ByteArray := prog_8_method_3_code
abbrev y_Snapshot_nextFile : MethodName := ⟨"LogDisk$Snapshot", "nextFile", "()I"⟩
abbrev w_Snapshot_nextFile : List Cond := Cond.code y_Snapshot_nextFile c_Snapshot_nextFile 1 (Option.some Jvm.ClassFile.FieldType.int) :: gTb
abbrev c_Tape_init : ByteArray := prog_9_method_1_code
abbrev y_Tape_init : MethodName := ⟨"LogDisk$Tape", "<init>", "()V"⟩
abbrev w_Tape_init : List Cond := Cond.code y_Tape_init c_Tape_init 1 (Option.none : Option Jvm.ClassFile.FieldType) :: gTb
abbrev c_Tape_handOver : ByteArray := prog_9_method_2_code
abbrev y_Tape_handOver : MethodName := ⟨"LogDisk$Tape", "handOver", "()I"⟩
abbrev w_Tape_handOver : List Cond := Cond.code y_Tape_handOver c_Tape_handOver 2 (Option.some Jvm.ClassFile.FieldType.int) :: gTb
abbrev c_Vote_init : ByteArray := prog_10_method_1_code
abbrev y_Vote_init : MethodName := ⟨"LogDisk$Vote", "<init>", "()V"⟩
abbrev w_Vote_init : List Cond := Cond.code y_Vote_init c_Vote_init 1 (Option.none : Option Jvm.ClassFile.FieldType) :: gTb
abbrev c_Vote_set : ByteArray := prog_10_method_2_code
abbrev y_Vote_set : MethodName := ⟨"LogDisk$Vote", "set", "(IJII)V"⟩
abbrev w_Vote_set : List Cond := Cond.code y_Vote_set c_Vote_set 6 (Option.none : Option Jvm.ClassFile.FieldType) :: gTb
abbrev c_Vote_forget : ByteArray := prog_10_method_3_code
abbrev y_Vote_forget : MethodName := ⟨"LogDisk$Vote", "forget", "()V"⟩
abbrev w_Vote_forget : List Cond := Cond.code y_Vote_forget c_Vote_forget 1 (Option.none : Option Jvm.ClassFile.FieldType) :: gTb
abbrev c_Vote_nextFile : ByteArray := prog_10_method_4_code
abbrev y_Vote_nextFile : MethodName := ⟨"LogDisk$Vote", "nextFile", "()I"⟩
abbrev w_Vote_nextFile : List Cond := Cond.code y_Vote_nextFile c_Vote_nextFile 1 (Option.some Jvm.ClassFile.FieldType.int) :: gTb
abbrev c_Law_cell : ByteArray := method_2_code
abbrev y_Law_cell : MethodName := ⟨"LogDiskLaw", "cell", "([II)I"⟩
abbrev w_Law_cell : List Cond := Cond.code y_Law_cell c_Law_cell 2 (Option.some Jvm.ClassFile.FieldType.int) :: gTb
end
section
/-! Names of cells, a state as numbers by name and slot. -/
abbrev gI : Type := Nat × Nat
abbrev gS : Type := (gI → Nat → Int32) × (gI → Nat → Int64)
def gset (S : gS) (i : gI) (k : Nat) (v : Int32) : gS := (fun j n => if j = i ∧ n = k then v else S.1 j n, S.2)
def gsetL (S : gS) (i : gI) (k : Nat) (v : Int64) : gS := (S.1, fun j n => if j = i ∧ n = k then v else S.2 j n)
def gcpy (S : gS) (i : gI) (sp : Nat) (j : gI) (dp n : Nat) : gS := (fun a k => if a = j then va_cpy (S.1 i) (S.1 j) sp dp n k else S.1 a k, S.2)
/-- class numbers and slots; classes of arrays; addresses; the other cells; lengths; the names -/
abbrev gY : Type := va_G × (Nat → ClassId) × (gI → Nat) × (gI → va_E) × (gI → Nat) × List gI
abbrev gDd (Y : gY) : va_G := Y.1
abbrev gAc (Y : gY) : Nat → ClassId := Y.2.1
abbrev gad (Y : gY) : gI → Nat := Y.2.2.1
abbrev gre (Y : gY) : gI → va_E := Y.2.2.2.1
abbrev gLn (Y : gY) : gI → Nat := Y.2.2.2.2.1
abbrev gLs (Y : gY) : List gI := Y.2.2.2.2.2
abbrev ju_ushr (x y : Int32) : Int32 := (x.toUInt32 >>> (y.toUInt32 &&& Int32.toUInt32 31)).toInt32
abbrev ju_lushr (x : Int64) (y : Int32) : Int64 := (x.toUInt64 >>> (y.toInt64.toUInt64 &&& Int64.toUInt64 63)).toInt64
abbrev ju_lshl (x : Int64) (y : Int32) : Int64 := x <<< (y.toInt64 &&& 63)
theorem gset_s (S : gS) (i : gI) (k : Nat) (v : Int32) : (gset S i k v).1 i k = v := by simp [gset]
theorem gset_n {S : gS} {i j : gI} {k n : Nat} {v : Int32} (h : j ≠ i ∨ n ≠ k) : (gset S i k v).1 j n = S.1 j n := by
  show (if j = i ∧ n = k then v else S.1 j n) = S.1 j n
  rw [if_neg]
  rintro ⟨a, b⟩
  rcases h with h | h
  · exact h a
  · exact h b
theorem gset_o {S : gS} {i j : gI} {k : Nat} {v : Int32} (h : j ≠ i) : (gset S i k v).1 j = S.1 j := funext fun _ => gset_n (Or.inl h)
theorem gset_u (S : gS) (i : gI) (k : Nat) (v : Int32) : (gset S i k v).1 i = upd (S.1 i) k v := by
  funext n
  show (if i = i ∧ n = k then v else S.1 i n) = _
  by_cases h : n = k
  · rw [if_pos ⟨rfl, h⟩, h, pk_us]
  · rw [if_neg (fun z => h z.2), pk_un h]
/-! Which cells there are: kinds 0 to 26 the object's, 30 on the reference's, 60 the law's row. Types: 0 to 10 classes, 20 to 24 rows. -/
def gTt : List Nat := [9, 1, 0, 20, 0, 20, 4, 21, 20, 20, 24, 20, 7, 21, 3, 21, 8, 6, 5, 20, 20, 2, 20, 20, 20, 20, 20, 99, 99, 99, 10, 20, 20, 20, 20, 20, 20, 20, 20, 20, 20, 22, 20, 20, 20, 20, 20, 20, 99, 99, 99, 99, 99, 99, 99, 99, 99, 99, 99, 99, 23]
def gT (i : gI) : Nat := gTt.getD i.1 99
abbrev gt_int : Nat := 20
abbrev gt_byte : Nat := 21
abbrev gt_bool : Nat := 22
abbrev gt_long : Nat := 23
abbrev gt_file : Nat := 24
def grf (i : gI) (k : Nat) : gI := match i.1 with
  | 0 => (match k with | 0 => (6, 0) | 1 => (10, 0) | 2 => (11, 0) | 3 => (12, 0) | 4 => (14, 0) | 5 => (16, 0) | 6 => (17, 0) | 7 => (18, 0) | _ => (21, 0))
  | 1 => (match k with | 0 => (6, 0) | 1 => (2, i.2) | _ => (4, i.2))
  | 2 => (3, i.2)
  | 4 => (5, i.2)
  | 6 => (match k with | 0 => (7, 0) | 1 => (8, 0) | _ => (9, 0))
  | 12 => (13, 0)
  | 14 => (15, 0)
  | 18 => (match k with | 0 => (19, 0) | _ => (20, 0))
  | 21 => (match k with | 0 => (22, 0) | 1 => (23, 0) | 2 => (24, 0) | 3 => (25, 0) | _ => (26, 0))
  | 30 => (match k with | 4 => (31, 0) | 5 => (32, 0) | 6 => (33, 0) | 7 => (34, 0) | 8 => (35, 0) | 9 => (36, 0) | 10 => (37, 0) | 12 => (38, 0) | 13 => (39, 0) | 14 => (40, 0) | 15 => (41, 0) | 16 => (42, 0) | 17 => (43, 0) | 18 => (44, 0) | 31 => (45, 0) | 32 => (46, 0) | _ => (47, 0))
  | 10 => (1, k)
  | _ => i
def gTys (Y : gY) : List (ClassId × FieldType) := [(gAc Y 0, .int), (gAc Y 1, .byte), (gAc Y 2, .boolean), (gAc Y 3, .long), (gAc Y 4, .object "LogDisk$DiskFile")]
def gf_Content (Y : gY) (S : gS) (i : gI) : List Value := [.ref (gad Y (grf i 0)), .int (S.1 i 1), .int (S.1 i 2)]
def gf_DiskFile (Y : gY) (S : gS) (i : gI) : List Value := [.ref (gad Y (grf i 0)), .ref (gad Y (grf i 1)), .ref (gad Y (grf i 2)), .int (S.1 i 3)]
def gf_Entries (Y : gY) (S : gS) (i : gI) : List Value := [.ref (gad Y (grf i 0)), .ref (gad Y (grf i 1)), .ref (gad Y (grf i 2)), .ref (gad Y (grf i 3)), .ref (gad Y (grf i 4))]
def gf_Frame (Y : gY) (S : gS) (i : gI) : List Value := [.ref (gad Y (grf i 0)), .int (S.1 i 1)]
def gf_Pages (Y : gY) (S : gS) (i : gI) : List Value := [.ref (gad Y (grf i 0)), .ref (gad Y (grf i 1)), .ref (gad Y (grf i 2)), .int (S.1 i 3)]
def gf_Segments (Y : gY) (S : gS) (i : gI) : List Value := [.ref (gad Y (grf i 0)), .ref (gad Y (grf i 1)), .int (S.1 i 2)]
def gf_Snapshot (Y : gY) (S : gS) (i : gI) : List Value := [.int (S.1 i 0), .int (S.1 i 1), .int (S.1 i 2), .int (S.1 i 3)]
def gf_Tape (Y : gY) (S : gS) (i : gI) : List Value := [.ref (gad Y (grf i 0)), .int (S.1 i 1)]
def gf_Vote (Y : gY) (S : gS) (i : gI) : List Value := [.int (S.1 i 0), .int (S.1 i 1), .long (S.2 i 2), .int (S.1 i 3), .int (S.1 i 4)]
def gf_LogDisk (Y : gY) (S : gS) (i : gI) : List Value := [.ref (gad Y (grf i 0)), .ref (gad Y (grf i 1)), .ref (gad Y (grf i 2)), .ref (gad Y (grf i 3)), .ref (gad Y (grf i 4)), .ref (gad Y (grf i 5)), .ref (gad Y (grf i 6)), .ref (gad Y (grf i 7)), .ref (gad Y (grf i 8)), .int (S.1 i 9), .int (S.1 i 10), .int (S.1 i 11)]
def gf_Mo (Y : gY) (S : gS) (i : gI) : List Value := [.int (S.1 i 0), .int (S.1 i 1), .int (S.1 i 2), .int (S.1 i 3), .ref (gad Y (grf i 4)), .ref (gad Y (grf i 5)), .ref (gad Y (grf i 6)), .ref (gad Y (grf i 7)), .ref (gad Y (grf i 8)), .ref (gad Y (grf i 9)), .ref (gad Y (grf i 10)), .int (S.1 i 11), .ref (gad Y (grf i 12)), .ref (gad Y (grf i 13)), .ref (gad Y (grf i 14)), .ref (gad Y (grf i 15)), .ref (gad Y (grf i 16)), .ref (gad Y (grf i 17)), .ref (gad Y (grf i 18)), .int (S.1 i 19), .int (S.1 i 20), .int (S.1 i 21), .int (S.1 i 22), .int (S.1 i 23), .int (S.1 i 24), .int (S.1 i 25), .int (S.1 i 26), .int (S.1 i 27), .int (S.1 i 28), .int (S.1 i 29), .int (S.1 i 30), .ref (gad Y (grf i 31)), .ref (gad Y (grf i 32)), .int (S.1 i 33), .ref (gad Y (grf i 34))]
def gce (Y : gY) (S : gS) (i : gI) : va_E := match gT i with
  | 0 => .inr (0, gf_Content Y S i)
  | 1 => .inr (1, gf_DiskFile Y S i)
  | 2 => .inr (2, gf_Entries Y S i)
  | 3 => .inr (3, gf_Frame Y S i)
  | 4 => .inr (4, gf_Pages Y S i)
  | 5 => .inr (5, gf_Segments Y S i)
  | 6 => .inr (6, gf_Snapshot Y S i)
  | 7 => .inr (7, gf_Tape Y S i)
  | 8 => .inr (8, gf_Vote Y S i)
  | 9 => .inr (9, gf_LogDisk Y S i)
  | 10 => .inr (10, gf_Mo Y S i)
  | 20 => .inl (gAc Y 0, gLn Y i, .inl (S.1 i))
  | 21 => .inl (gAc Y 1, gLn Y i, .inl (S.1 i))
  | 22 => .inl (gAc Y 2, gLn Y i, .inl (S.1 i))
  | 23 => .inl (gAc Y 3, gLn Y i, .inr (.inl (S.2 i)))
  | 24 => .inl (gAc Y 4, gLn Y i, .inr (.inr (.inr (.inr (fun j => some (gad Y (grf i j)))))))
  | _ => gre Y i
theorem gce_Content {Y : gY} {S : gS} {i : gI} (h : gT i = 0) : gce Y S i = .inr (0, gf_Content Y S i) := by
  unfold gce
  rw [h]
  first | done | rfl
theorem gce_DiskFile {Y : gY} {S : gS} {i : gI} (h : gT i = 1) : gce Y S i = .inr (1, gf_DiskFile Y S i) := by
  unfold gce
  rw [h]
  first | done | rfl
theorem gce_Entries {Y : gY} {S : gS} {i : gI} (h : gT i = 2) : gce Y S i = .inr (2, gf_Entries Y S i) := by
  unfold gce
  rw [h]
  first | done | rfl
theorem gce_Frame {Y : gY} {S : gS} {i : gI} (h : gT i = 3) : gce Y S i = .inr (3, gf_Frame Y S i) := by
  unfold gce
  rw [h]
  first | done | rfl
theorem gce_Pages {Y : gY} {S : gS} {i : gI} (h : gT i = 4) : gce Y S i = .inr (4, gf_Pages Y S i) := by
  unfold gce
  rw [h]
  first | done | rfl
theorem gce_Segments {Y : gY} {S : gS} {i : gI} (h : gT i = 5) : gce Y S i = .inr (5, gf_Segments Y S i) := by
  unfold gce
  rw [h]
  first | done | rfl
theorem gce_Snapshot {Y : gY} {S : gS} {i : gI} (h : gT i = 6) : gce Y S i = .inr (6, gf_Snapshot Y S i) := by
  unfold gce
  rw [h]
  first | done | rfl
theorem gce_Tape {Y : gY} {S : gS} {i : gI} (h : gT i = 7) : gce Y S i = .inr (7, gf_Tape Y S i) := by
  unfold gce
  rw [h]
  first | done | rfl
theorem gce_Vote {Y : gY} {S : gS} {i : gI} (h : gT i = 8) : gce Y S i = .inr (8, gf_Vote Y S i) := by
  unfold gce
  rw [h]
  first | done | rfl
theorem gce_LogDisk {Y : gY} {S : gS} {i : gI} (h : gT i = 9) : gce Y S i = .inr (9, gf_LogDisk Y S i) := by
  unfold gce
  rw [h]
  first | done | rfl
theorem gce_Mo {Y : gY} {S : gS} {i : gI} (h : gT i = 10) : gce Y S i = .inr (10, gf_Mo Y S i) := by
  unfold gce
  rw [h]
  first | done | rfl
theorem gce_int {Y : gY} {S : gS} {i : gI} (h : gT i = 20) : gce Y S i = .inl (gAc Y 0, gLn Y i, .inl (S.1 i)) := by
  unfold gce
  rw [h]
  first | done | rfl
theorem gce_byte {Y : gY} {S : gS} {i : gI} (h : gT i = 21) : gce Y S i = .inl (gAc Y 1, gLn Y i, .inl (S.1 i)) := by
  unfold gce
  rw [h]
  first | done | rfl
theorem gce_bool {Y : gY} {S : gS} {i : gI} (h : gT i = 22) : gce Y S i = .inl (gAc Y 2, gLn Y i, .inl (S.1 i)) := by
  unfold gce
  rw [h]
  first | done | rfl
theorem gce_long {Y : gY} {S : gS} {i : gI} (h : gT i = 23) : gce Y S i = .inl (gAc Y 3, gLn Y i, .inr (.inl (S.2 i))) := by
  unfold gce
  rw [h]
  first | done | rfl
theorem gce_file {Y : gY} {S : gS} {i : gI} (h : gT i = 24) : gce Y S i = .inl (gAc Y 4, gLn Y i, .inr (.inr (.inr (.inr (fun j => some (gad Y (grf i j))))))) := by
  unfold gce
  rw [h]
  first | done | rfl
theorem gce_congr {Y : gY} {S S' : gS} {i : gI} (h1 : S'.1 i = S.1 i) (h2 : S'.2 i = S.2 i) : gce Y S' i = gce Y S i := by
  unfold gce
  split <;> first | rfl | simp only [gf_Content, gf_DiskFile, gf_Entries, gf_Frame, gf_Pages, gf_Segments, gf_Snapshot, gf_Tape, gf_Vote, gf_LogDisk, gf_Mo, h1, h2]
def gNames : List gI := [(0, 0), (1, 0), (1, 1), (1, 2), (1, 3), (1, 4), (1, 5), (1, 6), (1, 7), (1, 8), (1, 9), (1, 10), (1, 11), (1, 12), (1, 13), (1, 14), (1, 15), (2, 0), (2, 1), (2, 2), (2, 3), (2, 4), (2, 5), (2, 6), (2, 7), (2, 8), (2, 9), (2, 10), (2, 11), (2, 12), (2, 13), (2, 14), (2, 15), (3, 0), (3, 1), (3, 2), (3, 3), (3, 4), (3, 5), (3, 6), (3, 7), (3, 8), (3, 9), (3, 10), (3, 11), (3, 12), (3, 13), (3, 14), (3, 15), (4, 0), (4, 1), (4, 2), (4, 3), (4, 4), (4, 5), (4, 6), (4, 7), (4, 8), (4, 9), (4, 10), (4, 11), (4, 12), (4, 13), (4, 14), (4, 15), (5, 0), (5, 1), (5, 2), (5, 3), (5, 4), (5, 5), (5, 6), (5, 7), (5, 8), (5, 9), (5, 10), (5, 11), (5, 12), (5, 13), (5, 14), (5, 15), (6, 0), (7, 0), (8, 0), (9, 0), (10, 0), (11, 0), (12, 0), (13, 0), (14, 0), (15, 0), (16, 0), (17, 0), (18, 0), (19, 0), (20, 0), (21, 0), (22, 0), (23, 0), (24, 0), (25, 0), (26, 0), (30, 0), (31, 0), (32, 0), (33, 0), (34, 0), (35, 0), (36, 0), (37, 0), (38, 0), (39, 0), (40, 0), (41, 0), (42, 0), (43, 0), (44, 0), (45, 0), (46, 0), (47, 0), (60, 0)]
def gis (Y : gY) (t : Nat) (i : gI) : Prop := gT i = t ∧ i ∈ gLs Y
/-- the names are apart, and so are the addresses -/
def gInj (Y : gY) : Prop := (gLs Y).Nodup ∧ ∀ i, i ∈ gLs Y → ∀ j, j ∈ gLs Y → gad Y i = gad Y j → i = j
/-- the world has just these cells; there are 16 files -/
def gOK (Y : gY) : Prop := gInj Y ∧ (∀ i, i ∈ gLs Y ↔ i ∈ gNames) ∧ gLn Y (10, 0) = 16
theorem gk_Content_row : gNames.all (fun i => decide (gT i = 0 → grf i 0 ∈ gNames ∧ gT (grf i 0) = 20)) = true := by decide +kernel
theorem gis_Content_row {Y : gY} {i : gI} (hY : gOK Y) (h : gis Y 0 i) : gis Y 20 (grf i 0) := by
  have h1 := of_decide_eq_true (List.all_eq_true.mp gk_Content_row i ((hY.2.1 i).mp h.2)) h.1
  exact ⟨h1.2, (hY.2.1 _).mpr h1.1⟩
theorem gk_DiskFile_pages : gNames.all (fun i => decide (gT i = 1 → grf i 0 ∈ gNames ∧ gT (grf i 0) = 4)) = true := by decide +kernel
theorem gis_DiskFile_pages {Y : gY} {i : gI} (hY : gOK Y) (h : gis Y 1 i) : gis Y 4 (grf i 0) := by
  have h1 := of_decide_eq_true (List.all_eq_true.mp gk_DiskFile_pages i ((hY.2.1 i).mp h.2)) h.1
  exact ⟨h1.2, (hY.2.1 _).mpr h1.1⟩
theorem gk_DiskFile_now : gNames.all (fun i => decide (gT i = 1 → grf i 1 ∈ gNames ∧ gT (grf i 1) = 0)) = true := by decide +kernel
theorem gis_DiskFile_now {Y : gY} {i : gI} (hY : gOK Y) (h : gis Y 1 i) : gis Y 0 (grf i 1) := by
  have h1 := of_decide_eq_true (List.all_eq_true.mp gk_DiskFile_now i ((hY.2.1 i).mp h.2)) h.1
  exact ⟨h1.2, (hY.2.1 _).mpr h1.1⟩
theorem gk_DiskFile_synced : gNames.all (fun i => decide (gT i = 1 → grf i 2 ∈ gNames ∧ gT (grf i 2) = 0)) = true := by decide +kernel
theorem gis_DiskFile_synced {Y : gY} {i : gI} (hY : gOK Y) (h : gis Y 1 i) : gis Y 0 (grf i 2) := by
  have h1 := of_decide_eq_true (List.all_eq_true.mp gk_DiskFile_synced i ((hY.2.1 i).mp h.2)) h.1
  exact ⟨h1.2, (hY.2.1 _).mpr h1.1⟩
theorem gk_Entries_file : gNames.all (fun i => decide (gT i = 2 → grf i 0 ∈ gNames ∧ gT (grf i 0) = 20)) = true := by decide +kernel
theorem gis_Entries_file {Y : gY} {i : gI} (hY : gOK Y) (h : gis Y 2 i) : gis Y 20 (grf i 0) := by
  have h1 := of_decide_eq_true (List.all_eq_true.mp gk_Entries_file i ((hY.2.1 i).mp h.2)) h.1
  exact ⟨h1.2, (hY.2.1 _).mpr h1.1⟩
theorem gk_Entries_start : gNames.all (fun i => decide (gT i = 2 → grf i 1 ∈ gNames ∧ gT (grf i 1) = 20)) = true := by decide +kernel
theorem gis_Entries_start {Y : gY} {i : gI} (hY : gOK Y) (h : gis Y 2 i) : gis Y 20 (grf i 1) := by
  have h1 := of_decide_eq_true (List.all_eq_true.mp gk_Entries_start i ((hY.2.1 i).mp h.2)) h.1
  exact ⟨h1.2, (hY.2.1 _).mpr h1.1⟩
theorem gk_Entries_term : gNames.all (fun i => decide (gT i = 2 → grf i 2 ∈ gNames ∧ gT (grf i 2) = 20)) = true := by decide +kernel
theorem gis_Entries_term {Y : gY} {i : gI} (hY : gOK Y) (h : gis Y 2 i) : gis Y 20 (grf i 2) := by
  have h1 := of_decide_eq_true (List.all_eq_true.mp gk_Entries_term i ((hY.2.1 i).mp h.2)) h.1
  exact ⟨h1.2, (hY.2.1 _).mpr h1.1⟩
theorem gk_Entries_kind : gNames.all (fun i => decide (gT i = 2 → grf i 3 ∈ gNames ∧ gT (grf i 3) = 20)) = true := by decide +kernel
theorem gis_Entries_kind {Y : gY} {i : gI} (hY : gOK Y) (h : gis Y 2 i) : gis Y 20 (grf i 3) := by
  have h1 := of_decide_eq_true (List.all_eq_true.mp gk_Entries_kind i ((hY.2.1 i).mp h.2)) h.1
  exact ⟨h1.2, (hY.2.1 _).mpr h1.1⟩
theorem gk_Entries_bytes : gNames.all (fun i => decide (gT i = 2 → grf i 4 ∈ gNames ∧ gT (grf i 4) = 20)) = true := by decide +kernel
theorem gis_Entries_bytes {Y : gY} {i : gI} (hY : gOK Y) (h : gis Y 2 i) : gis Y 20 (grf i 4) := by
  have h1 := of_decide_eq_true (List.all_eq_true.mp gk_Entries_bytes i ((hY.2.1 i).mp h.2)) h.1
  exact ⟨h1.2, (hY.2.1 _).mpr h1.1⟩
theorem gk_Frame_bytes : gNames.all (fun i => decide (gT i = 3 → grf i 0 ∈ gNames ∧ gT (grf i 0) = 21)) = true := by decide +kernel
theorem gis_Frame_bytes {Y : gY} {i : gI} (hY : gOK Y) (h : gis Y 3 i) : gis Y 21 (grf i 0) := by
  have h1 := of_decide_eq_true (List.all_eq_true.mp gk_Frame_bytes i ((hY.2.1 i).mp h.2)) h.1
  exact ⟨h1.2, (hY.2.1 _).mpr h1.1⟩
theorem gk_Pages_bytes : gNames.all (fun i => decide (gT i = 4 → grf i 0 ∈ gNames ∧ gT (grf i 0) = 21)) = true := by decide +kernel
theorem gis_Pages_bytes {Y : gY} {i : gI} (hY : gOK Y) (h : gis Y 4 i) : gis Y 21 (grf i 0) := by
  have h1 := of_decide_eq_true (List.all_eq_true.mp gk_Pages_bytes i ((hY.2.1 i).mp h.2)) h.1
  exact ⟨h1.2, (hY.2.1 _).mpr h1.1⟩
theorem gk_Pages_owners : gNames.all (fun i => decide (gT i = 4 → grf i 1 ∈ gNames ∧ gT (grf i 1) = 20)) = true := by decide +kernel
theorem gis_Pages_owners {Y : gY} {i : gI} (hY : gOK Y) (h : gis Y 4 i) : gis Y 20 (grf i 1) := by
  have h1 := of_decide_eq_true (List.all_eq_true.mp gk_Pages_owners i ((hY.2.1 i).mp h.2)) h.1
  exact ⟨h1.2, (hY.2.1 _).mpr h1.1⟩
theorem gk_Pages_unused : gNames.all (fun i => decide (gT i = 4 → grf i 2 ∈ gNames ∧ gT (grf i 2) = 20)) = true := by decide +kernel
theorem gis_Pages_unused {Y : gY} {i : gI} (hY : gOK Y) (h : gis Y 4 i) : gis Y 20 (grf i 2) := by
  have h1 := of_decide_eq_true (List.all_eq_true.mp gk_Pages_unused i ((hY.2.1 i).mp h.2)) h.1
  exact ⟨h1.2, (hY.2.1 _).mpr h1.1⟩
theorem gk_Segments_file : gNames.all (fun i => decide (gT i = 5 → grf i 0 ∈ gNames ∧ gT (grf i 0) = 20)) = true := by decide +kernel
theorem gis_Segments_file {Y : gY} {i : gI} (hY : gOK Y) (h : gis Y 5 i) : gis Y 20 (grf i 0) := by
  have h1 := of_decide_eq_true (List.all_eq_true.mp gk_Segments_file i ((hY.2.1 i).mp h.2)) h.1
  exact ⟨h1.2, (hY.2.1 _).mpr h1.1⟩
theorem gk_Segments_first : gNames.all (fun i => decide (gT i = 5 → grf i 1 ∈ gNames ∧ gT (grf i 1) = 20)) = true := by decide +kernel
theorem gis_Segments_first {Y : gY} {i : gI} (hY : gOK Y) (h : gis Y 5 i) : gis Y 20 (grf i 1) := by
  have h1 := of_decide_eq_true (List.all_eq_true.mp gk_Segments_first i ((hY.2.1 i).mp h.2)) h.1
  exact ⟨h1.2, (hY.2.1 _).mpr h1.1⟩
theorem gk_Tape_bytes : gNames.all (fun i => decide (gT i = 7 → grf i 0 ∈ gNames ∧ gT (grf i 0) = 21)) = true := by decide +kernel
theorem gis_Tape_bytes {Y : gY} {i : gI} (hY : gOK Y) (h : gis Y 7 i) : gis Y 21 (grf i 0) := by
  have h1 := of_decide_eq_true (List.all_eq_true.mp gk_Tape_bytes i ((hY.2.1 i).mp h.2)) h.1
  exact ⟨h1.2, (hY.2.1 _).mpr h1.1⟩
theorem gk_LogDisk_pages : gNames.all (fun i => decide (gT i = 9 → grf i 0 ∈ gNames ∧ gT (grf i 0) = 4)) = true := by decide +kernel
theorem gis_LogDisk_pages {Y : gY} {i : gI} (hY : gOK Y) (h : gis Y 9 i) : gis Y 4 (grf i 0) := by
  have h1 := of_decide_eq_true (List.all_eq_true.mp gk_LogDisk_pages i ((hY.2.1 i).mp h.2)) h.1
  exact ⟨h1.2, (hY.2.1 _).mpr h1.1⟩
theorem gk_LogDisk_files : gNames.all (fun i => decide (gT i = 9 → grf i 1 ∈ gNames ∧ gT (grf i 1) = 24)) = true := by decide +kernel
theorem gis_LogDisk_files {Y : gY} {i : gI} (hY : gOK Y) (h : gis Y 9 i) : gis Y 24 (grf i 1) := by
  have h1 := of_decide_eq_true (List.all_eq_true.mp gk_LogDisk_files i ((hY.2.1 i).mp h.2)) h.1
  exact ⟨h1.2, (hY.2.1 _).mpr h1.1⟩
theorem gk_LogDisk_keeps : gNames.all (fun i => decide (gT i = 9 → grf i 2 ∈ gNames ∧ gT (grf i 2) = 20)) = true := by decide +kernel
theorem gis_LogDisk_keeps {Y : gY} {i : gI} (hY : gOK Y) (h : gis Y 9 i) : gis Y 20 (grf i 2) := by
  have h1 := of_decide_eq_true (List.all_eq_true.mp gk_LogDisk_keeps i ((hY.2.1 i).mp h.2)) h.1
  exact ⟨h1.2, (hY.2.1 _).mpr h1.1⟩
theorem gk_LogDisk_tape : gNames.all (fun i => decide (gT i = 9 → grf i 3 ∈ gNames ∧ gT (grf i 3) = 7)) = true := by decide +kernel
theorem gis_LogDisk_tape {Y : gY} {i : gI} (hY : gOK Y) (h : gis Y 9 i) : gis Y 7 (grf i 3) := by
  have h1 := of_decide_eq_true (List.all_eq_true.mp gk_LogDisk_tape i ((hY.2.1 i).mp h.2)) h.1
  exact ⟨h1.2, (hY.2.1 _).mpr h1.1⟩
theorem gk_LogDisk_frame : gNames.all (fun i => decide (gT i = 9 → grf i 4 ∈ gNames ∧ gT (grf i 4) = 3)) = true := by decide +kernel
theorem gis_LogDisk_frame {Y : gY} {i : gI} (hY : gOK Y) (h : gis Y 9 i) : gis Y 3 (grf i 4) := by
  have h1 := of_decide_eq_true (List.all_eq_true.mp gk_LogDisk_frame i ((hY.2.1 i).mp h.2)) h.1
  exact ⟨h1.2, (hY.2.1 _).mpr h1.1⟩
theorem gk_LogDisk_vote : gNames.all (fun i => decide (gT i = 9 → grf i 5 ∈ gNames ∧ gT (grf i 5) = 8)) = true := by decide +kernel
theorem gis_LogDisk_vote {Y : gY} {i : gI} (hY : gOK Y) (h : gis Y 9 i) : gis Y 8 (grf i 5) := by
  have h1 := of_decide_eq_true (List.all_eq_true.mp gk_LogDisk_vote i ((hY.2.1 i).mp h.2)) h.1
  exact ⟨h1.2, (hY.2.1 _).mpr h1.1⟩
theorem gk_LogDisk_snapshot : gNames.all (fun i => decide (gT i = 9 → grf i 6 ∈ gNames ∧ gT (grf i 6) = 6)) = true := by decide +kernel
theorem gis_LogDisk_snapshot {Y : gY} {i : gI} (hY : gOK Y) (h : gis Y 9 i) : gis Y 6 (grf i 6) := by
  have h1 := of_decide_eq_true (List.all_eq_true.mp gk_LogDisk_snapshot i ((hY.2.1 i).mp h.2)) h.1
  exact ⟨h1.2, (hY.2.1 _).mpr h1.1⟩
theorem gk_LogDisk_segments : gNames.all (fun i => decide (gT i = 9 → grf i 7 ∈ gNames ∧ gT (grf i 7) = 5)) = true := by decide +kernel
theorem gis_LogDisk_segments {Y : gY} {i : gI} (hY : gOK Y) (h : gis Y 9 i) : gis Y 5 (grf i 7) := by
  have h1 := of_decide_eq_true (List.all_eq_true.mp gk_LogDisk_segments i ((hY.2.1 i).mp h.2)) h.1
  exact ⟨h1.2, (hY.2.1 _).mpr h1.1⟩
theorem gk_LogDisk_entries : gNames.all (fun i => decide (gT i = 9 → grf i 8 ∈ gNames ∧ gT (grf i 8) = 2)) = true := by decide +kernel
theorem gis_LogDisk_entries {Y : gY} {i : gI} (hY : gOK Y) (h : gis Y 9 i) : gis Y 2 (grf i 8) := by
  have h1 := of_decide_eq_true (List.all_eq_true.mp gk_LogDisk_entries i ((hY.2.1 i).mp h.2)) h.1
  exact ⟨h1.2, (hY.2.1 _).mpr h1.1⟩
theorem gk_Mo_sorts : gNames.all (fun i => decide (gT i = 10 → grf i 4 ∈ gNames ∧ gT (grf i 4) = 20)) = true := by decide +kernel
theorem gis_Mo_sorts {Y : gY} {i : gI} (hY : gOK Y) (h : gis Y 10 i) : gis Y 20 (grf i 4) := by
  have h1 := of_decide_eq_true (List.all_eq_true.mp gk_Mo_sorts i ((hY.2.1 i).mp h.2)) h.1
  exact ⟨h1.2, (hY.2.1 _).mpr h1.1⟩
theorem gk_Mo_as : gNames.all (fun i => decide (gT i = 10 → grf i 5 ∈ gNames ∧ gT (grf i 5) = 20)) = true := by decide +kernel
theorem gis_Mo_as {Y : gY} {i : gI} (hY : gOK Y) (h : gis Y 10 i) : gis Y 20 (grf i 5) := by
  have h1 := of_decide_eq_true (List.all_eq_true.mp gk_Mo_as i ((hY.2.1 i).mp h.2)) h.1
  exact ⟨h1.2, (hY.2.1 _).mpr h1.1⟩
theorem gk_Mo_bs : gNames.all (fun i => decide (gT i = 10 → grf i 6 ∈ gNames ∧ gT (grf i 6) = 20)) = true := by decide +kernel
theorem gis_Mo_bs {Y : gY} {i : gI} (hY : gOK Y) (h : gis Y 10 i) : gis Y 20 (grf i 6) := by
  have h1 := of_decide_eq_true (List.all_eq_true.mp gk_Mo_bs i ((hY.2.1 i).mp h.2)) h.1
  exact ⟨h1.2, (hY.2.1 _).mpr h1.1⟩
theorem gk_Mo_cs : gNames.all (fun i => decide (gT i = 10 → grf i 7 ∈ gNames ∧ gT (grf i 7) = 20)) = true := by decide +kernel
theorem gis_Mo_cs {Y : gY} {i : gI} (hY : gOK Y) (h : gis Y 10 i) : gis Y 20 (grf i 7) := by
  have h1 := of_decide_eq_true (List.all_eq_true.mp gk_Mo_cs i ((hY.2.1 i).mp h.2)) h.1
  exact ⟨h1.2, (hY.2.1 _).mpr h1.1⟩
theorem gk_Mo_froms : gNames.all (fun i => decide (gT i = 10 → grf i 8 ∈ gNames ∧ gT (grf i 8) = 20)) = true := by decide +kernel
theorem gis_Mo_froms {Y : gY} {i : gI} (hY : gOK Y) (h : gis Y 10 i) : gis Y 20 (grf i 8) := by
  have h1 := of_decide_eq_true (List.all_eq_true.mp gk_Mo_froms i ((hY.2.1 i).mp h.2)) h.1
  exact ⟨h1.2, (hY.2.1 _).mpr h1.1⟩
theorem gk_Mo_lengths : gNames.all (fun i => decide (gT i = 10 → grf i 9 ∈ gNames ∧ gT (grf i 9) = 20)) = true := by decide +kernel
theorem gis_Mo_lengths {Y : gY} {i : gI} (hY : gOK Y) (h : gis Y 10 i) : gis Y 20 (grf i 9) := by
  have h1 := of_decide_eq_true (List.all_eq_true.mp gk_Mo_lengths i ((hY.2.1 i).mp h.2)) h.1
  exact ⟨h1.2, (hY.2.1 _).mpr h1.1⟩
theorem gk_Mo_bytes : gNames.all (fun i => decide (gT i = 10 → grf i 10 ∈ gNames ∧ gT (grf i 10) = 20)) = true := by decide +kernel
theorem gis_Mo_bytes {Y : gY} {i : gI} (hY : gOK Y) (h : gis Y 10 i) : gis Y 20 (grf i 10) := by
  have h1 := of_decide_eq_true (List.all_eq_true.mp gk_Mo_bytes i ((hY.2.1 i).mp h.2)) h.1
  exact ⟨h1.2, (hY.2.1 _).mpr h1.1⟩
theorem gk_Mo_rows : gNames.all (fun i => decide (gT i = 10 → grf i 12 ∈ gNames ∧ gT (grf i 12) = 20)) = true := by decide +kernel
theorem gis_Mo_rows {Y : gY} {i : gI} (hY : gOK Y) (h : gis Y 10 i) : gis Y 20 (grf i 12) := by
  have h1 := of_decide_eq_true (List.all_eq_true.mp gk_Mo_rows i ((hY.2.1 i).mp h.2)) h.1
  exact ⟨h1.2, (hY.2.1 _).mpr h1.1⟩
theorem gk_Mo_counts : gNames.all (fun i => decide (gT i = 10 → grf i 13 ∈ gNames ∧ gT (grf i 13) = 20)) = true := by decide +kernel
theorem gis_Mo_counts {Y : gY} {i : gI} (hY : gOK Y) (h : gis Y 10 i) : gis Y 20 (grf i 13) := by
  have h1 := of_decide_eq_true (List.all_eq_true.mp gk_Mo_counts i ((hY.2.1 i).mp h.2)) h.1
  exact ⟨h1.2, (hY.2.1 _).mpr h1.1⟩
theorem gk_Mo_sizes : gNames.all (fun i => decide (gT i = 10 → grf i 14 ∈ gNames ∧ gT (grf i 14) = 20)) = true := by decide +kernel
theorem gis_Mo_sizes {Y : gY} {i : gI} (hY : gOK Y) (h : gis Y 10 i) : gis Y 20 (grf i 14) := by
  have h1 := of_decide_eq_true (List.all_eq_true.mp gk_Mo_sizes i ((hY.2.1 i).mp h.2)) h.1
  exact ⟨h1.2, (hY.2.1 _).mpr h1.1⟩
theorem gk_Mo_there : gNames.all (fun i => decide (gT i = 10 → grf i 15 ∈ gNames ∧ gT (grf i 15) = 22)) = true := by decide +kernel
theorem gis_Mo_there {Y : gY} {i : gI} (hY : gOK Y) (h : gis Y 10 i) : gis Y 22 (grf i 15) := by
  have h1 := of_decide_eq_true (List.all_eq_true.mp gk_Mo_there i ((hY.2.1 i).mp h.2)) h.1
  exact ⟨h1.2, (hY.2.1 _).mpr h1.1⟩
theorem gk_Mo_lows : gNames.all (fun i => decide (gT i = 10 → grf i 16 ∈ gNames ∧ gT (grf i 16) = 20)) = true := by decide +kernel
theorem gis_Mo_lows {Y : gY} {i : gI} (hY : gOK Y) (h : gis Y 10 i) : gis Y 20 (grf i 16) := by
  have h1 := of_decide_eq_true (List.all_eq_true.mp gk_Mo_lows i ((hY.2.1 i).mp h.2)) h.1
  exact ⟨h1.2, (hY.2.1 _).mpr h1.1⟩
theorem gk_Mo_shared : gNames.all (fun i => decide (gT i = 10 → grf i 17 ∈ gNames ∧ gT (grf i 17) = 20)) = true := by decide +kernel
theorem gis_Mo_shared {Y : gY} {i : gI} (hY : gOK Y) (h : gis Y 10 i) : gis Y 20 (grf i 17) := by
  have h1 := of_decide_eq_true (List.all_eq_true.mp gk_Mo_shared i ((hY.2.1 i).mp h.2)) h.1
  exact ⟨h1.2, (hY.2.1 _).mpr h1.1⟩
theorem gk_Mo_keeps : gNames.all (fun i => decide (gT i = 10 → grf i 18 ∈ gNames ∧ gT (grf i 18) = 20)) = true := by decide +kernel
theorem gis_Mo_keeps {Y : gY} {i : gI} (hY : gOK Y) (h : gis Y 10 i) : gis Y 20 (grf i 18) := by
  have h1 := of_decide_eq_true (List.all_eq_true.mp gk_Mo_keeps i ((hY.2.1 i).mp h.2)) h.1
  exact ⟨h1.2, (hY.2.1 _).mpr h1.1⟩
theorem gk_Mo_order : gNames.all (fun i => decide (gT i = 10 → grf i 31 ∈ gNames ∧ gT (grf i 31) = 20)) = true := by decide +kernel
theorem gis_Mo_order {Y : gY} {i : gI} (hY : gOK Y) (h : gis Y 10 i) : gis Y 20 (grf i 31) := by
  have h1 := of_decide_eq_true (List.all_eq_true.mp gk_Mo_order i ((hY.2.1 i).mp h.2)) h.1
  exact ⟨h1.2, (hY.2.1 _).mpr h1.1⟩
theorem gk_Mo_entries : gNames.all (fun i => decide (gT i = 10 → grf i 32 ∈ gNames ∧ gT (grf i 32) = 20)) = true := by decide +kernel
theorem gis_Mo_entries {Y : gY} {i : gI} (hY : gOK Y) (h : gis Y 10 i) : gis Y 20 (grf i 32) := by
  have h1 := of_decide_eq_true (List.all_eq_true.mp gk_Mo_entries i ((hY.2.1 i).mp h.2)) h.1
  exact ⟨h1.2, (hY.2.1 _).mpr h1.1⟩
theorem gk_Mo_fed : gNames.all (fun i => decide (gT i = 10 → grf i 34 ∈ gNames ∧ gT (grf i 34) = 20)) = true := by decide +kernel
theorem gis_Mo_fed {Y : gY} {i : gI} (hY : gOK Y) (h : gis Y 10 i) : gis Y 20 (grf i 34) := by
  have h1 := of_decide_eq_true (List.all_eq_true.mp gk_Mo_fed i ((hY.2.1 i).mp h.2)) h.1
  exact ⟨h1.2, (hY.2.1 _).mpr h1.1⟩
theorem gk_file : gNames.all (fun i => decide (gT i = 24 → i = (10, 0))) = true := by decide +kernel
theorem gk_elem : (List.range 16).all (fun f => decide (grf (10, 0) f ∈ gNames ∧ gT (grf (10, 0) f) = 1)) = true := by decide +kernel
theorem gis_elem_DiskFile {Y : gY} {i : gI} {x : Int32} (hY : gOK Y) (h : gis Y 24 i) (hin : vp_in x (gLn Y i)) : gis Y 1 (grf i x.toNatClampNeg) := by
  have h1 := of_decide_eq_true (List.all_eq_true.mp gk_file i ((hY.2.1 i).mp h.2)) h.1
  subst h1
  rw [hY.2.2] at hin
  have hlt : x.toNatClampNeg < 16 := Nat.not_le.mp fun q => hin (Or.inr q)
  have h2 := of_decide_eq_true (List.all_eq_true.mp gk_elem _ (List.mem_range.mpr hlt))
  exact ⟨h2.2, (hY.2.1 _).mpr h2.1⟩
end
section
/-! The world of a state, rows of the machine over it. Before this part: gT, grf, gTys, gce, gce_congr (printed out of the class's tables). -/
def gWs (Y : gY) (S : gS) : va_W := (gLs Y).map (fun i => (gad Y i, gce Y S i))
def gWd (Y : gY) (S : gS) (H : Heap) : Prop := va_P (gDd Y) gCl (gWs Y S) H
def gA (Y : gY) (sz : Nat) : Nat → Prop := fun q => (∃ i, i ∈ gLs Y ∧ gad Y i = q) ∨ sz ≤ q
theorem gWs_get {Y : gY} {S : gS} {k : Nat} {q : Nat × va_E} (h : (gWs Y S)[k]? = some q) : ∃ i, (gLs Y)[k]? = some i ∧ q = (gad Y i, gce Y S i) := by
  unfold gWs at h
  rw [List.getElem?_map] at h
  cases hi : (gLs Y)[k]? with
  | none => rw [hi] at h; cases h
  | some i => rw [hi] at h; exact ⟨i, rfl, (Option.some.inj h).symm⟩
theorem gWs_at {Y : gY} (S : gS) {i : gI} (h : i ∈ gLs Y) : ∃ k : Nat, (gLs Y)[k]? = some i ∧ (gWs Y S)[k]? = some (gad Y i, gce Y S i) := by
  obtain ⟨k, hk⟩ := List.getElem?_of_mem h
  refine ⟨k, hk, ?_⟩
  unfold gWs
  rw [List.getElem?_map, hk]
  rfl
theorem gD {Y : gY} {S : gS} {sz : Nat} (h : gInj Y) : va_D (gA Y sz) (gWs Y S) := by
  refine ⟨fun a b x y ha hb hxy => ?_, fun k q hk => ?_⟩
  · obtain ⟨i, h1, rfl⟩ := gWs_get ha
    obtain ⟨j, h2, rfl⟩ := gWs_get hb
    have hij := h.2 i (List.mem_of_getElem? h1) j (List.mem_of_getElem? h2) hxy
    subst hij
    exact (List.getElem?_inj (List.getElem?_eq_some_iff.mp h1).1 h.1).mp (h1.trans h2.symm)
  · obtain ⟨i, h1, rfl⟩ := gWs_get hk
    exact Or.inl ⟨i, List.mem_of_getElem? h1, rfl⟩
theorem gWd_set {Y : gY} {S S' : gS} {i : gI} {k : Nat} {e' : va_E} {H : Heap} (h : gInj Y) (hk : (gLs Y)[k]? = some i) (h1 : gce Y S' i = e') (h2 : ∀ j, j ≠ i → gce Y S' j = gce Y S j) (hP : va_P (gDd Y) gCl ((gWs Y S).set k (gad Y i, e')) H) : gWd Y S' H := by
  intro a q ha
  obtain ⟨j, hj, rfl⟩ := gWs_get ha
  have hl : k < (gWs Y S).length := by
    unfold gWs
    rw [List.length_map]
    exact (List.getElem?_eq_some_iff.mp hk).1
  by_cases hak : a = k
  · subst hak
    rw [hk] at hj
    cases hj
    rw [h1]
    exact hP a _ (List.getElem?_set_self hl)
  · have hji : j ≠ i := by
      intro z
      subst z
      exact hak ((List.getElem?_inj (List.getElem?_eq_some_iff.mp hj).1 h.1).mp (hj.trans hk.symm))
    rw [h2 j hji]
    refine hP a _ ?_
    rw [List.getElem?_set_ne (Ne.symm hak)]
    unfold gWs
    rw [List.getElem?_map, hj]
    rfl
theorem gce_gset {Y : gY} {S : gS} {i : gI} {k : Nat} {v : Int32} : ∀ j, j ≠ i → gce Y (gset S i k v) j = gce Y S j := fun j h => gce_congr (gset_o h) rfl
theorem gce_gsetL {Y : gY} {S : gS} {i : gI} {k : Nat} {v : Int64} : ∀ j, j ≠ i → gce Y (gsetL S i k v) j = gce Y S j := fun j h => gce_congr rfl (funext fun n => by show (if j = i ∧ n = k then v else S.2 j n) = _; rw [if_neg (fun z => h z.1)])
theorem gce_gcpy {Y : gY} {S : gS} {i i0 : gI} {sp dp n : Nat} : ∀ j, j ≠ i → gce Y (gcpy S i0 sp i dp n) j = gce Y S j := fun j h => gce_congr (funext fun n => by show (if j = i then _ else S.1 j n) = _; rw [if_neg h]) rfl
theorem gA_call {Y : gY} {s : State} {H : Heap} {locs : List Loc} (hS : va_S (gA Y s.heap.size) s.heap H locs) : ∀ q, gA Y H.size q → gA Y s.heap.size q := fun q h => h.elim Or.inl (fun z => Or.inr (Nat.le_trans hS.1 z))
section
variable {p : Program} {l : Launch} {e : Env} {R : Room} {s : State} {m : MethodId} {args : Array Value} {below : List Frame} {meth : Method} {c : Code} {H : Heap} {locs : List Loc} {cells slots : Nat} {Q : State → Prop}
variable {cc : ByteArray} {pc : Nat} {ls : Array Slot} {rest : List Value} {Y : gY} {S : gS} {i : gI} {t : Nat}
theorem g_get (hx : p.tables.exec = Jvm.exec) (hb : c.code = cc) {own C : String} {T : u_T} {N ci index : Nat} {Ts : List Cond} (hts : ∀ w ∈ Ts, w.before args s = true) (hin : ∀ w ∈ u_ws C T N, w ∈ Ts) (hown : s.vm.findClass own = some m.cls) (hK : va_K (gDd Y) gCl (gTys Y) s) (hP : gWd Y S H) (hi : gis Y t i) {fs : List Value} (he : gce Y S i = .inr (ci, fs)) (hc : gCl[ci]? = some (C, T, N)) (k : Nat) (hk : k < N) (hlink : (Cond.fieldLink own index (T k).1 (T k).2.1 (T k).2.2.1).before args s = true) {v : Value} (hv : fs[k]? = some v) (hdg : decode cc pc = .ok (.getfield index, 3))
    (kk : W p l e R s m args below meth c H locs cells slots Q (F0 m (pc + 3) ls (v :: rest))) : W p l e R s m args below meth c H locs cells slots Q (F0 m pc ls (.ref (gad Y i) :: rest)) := by
  obtain ⟨q0, -, h1⟩ := gWs_at S hi.2
  rw [he] at h1
  exact va_get hx hb hts hin hown hK hP q0 h1 hc k hk hlink (fun _ h => h) hv hdg kk
theorem g_put (hx : p.tables.exec = Jvm.exec) (hb : c.code = cc) {own C : String} {T : u_T} {N ci index : Nat} {Ts : List Cond} (hts : ∀ w ∈ Ts, w.before args s = true) (hin : ∀ w ∈ u_ws C T N, w ∈ Ts) (ty0 : Nat → FieldType) (hty : ∀ k, k < N → parseFieldDescriptor (T k).2.2.1 = some (ty0 k)) (hnm : ∀ a, a < N → ∀ b, b < N → a ≠ b → (T a).2.1 ≠ (T b).2.1) (hown : s.vm.findClass own = some m.cls) (hK : va_K (gDd Y) gCl (gTys Y) s) (hJ : gInj Y) (hP : gWd Y S H) (hS : va_S (gA Y s.heap.size) s.heap H locs) (hi : gis Y t i) {fs : List Value} (he : gce Y S i = .inr (ci, fs)) (hc : gCl[ci]? = some (C, T, N)) (k : Nat) (hk : k < N) (hlink : (Cond.fieldLink own index (T k).1 (T k).2.1 (T k).2.2.1).before args s = true) (hfin : (T k).2.2.2 = false) {ty : FieldType} {v : Value} (hd : parseFieldDescriptor (T k).2.2.1 = some ty) (hn : narrow ty v = v) (hfit : fits ty v = true) (hl : k < fs.length) {S' : gS} (h1 : gce Y S' i = .inr (ci, fs.set k v)) (h2 : ∀ j, j ≠ i → gce Y S' j = gce Y S j)
    (hdg : decode cc pc = .ok (.putfield index, 3)) (kk : ∀ (H1 : Heap) (locs1 : List Loc), gWd Y S' H1 → va_S (gA Y s.heap.size) s.heap H1 locs1 → W p l e R s m args below meth c H1 locs1 cells slots Q (F0 m (pc + 3) ls rest)) : W p l e R s m args below meth c H locs cells slots Q (F0 m pc ls (v :: .ref (gad Y i) :: rest)) := by
  obtain ⟨q0, h0, h3⟩ := gWs_at S hi.2
  rw [he] at h3
  exact va_put hx hb hts hin ty0 hty hnm hown hK hP (gD hJ) hS q0 h3 hc k hk hlink (fun _ h => h) hfin hd hn hfit hl hdg (fun H1 locs1 hP1 _ hS1 => kk H1 locs1 (gWd_set hJ h0 h1 h2 hP1) hS1)
end
/-! What is given of the start: links of nest mates, the table of the sum. -/
def gSumL : List Int32 := [0, 498536548, 997073096, 651767980, 1994146192, 1802195444, 1303535960, 1342533948, -306674912, -267414716, -690576408, -882789492, -1687895376, -2032938284, -1609899400, -1111625188]
def gSum (j : Nat) : Int32 := gSumL.getD j 0
def gNs (U : State) : Prop := va_Nw (.methodLinkNest "LogDisk$Content" 17 y_LogDisk_pagesFor "LogDisk") U ∧ va_Nw (.methodLinkNest "LogDisk$DiskFile" 31 y_LogDisk_pagesFor "LogDisk") U ∧ va_Nw (.methodLinkNest "LogDisk$DiskFile" 110 y_LogDisk_sumStep "LogDisk") U ∧ va_Nw (.methodLinkNest "LogDisk$Frame" 29 y_LogDisk_sumStep "LogDisk") U
def gTab (A : Nat → Prop) (U : State) (H : Heap) : Prop := ∃ t : Nat, va_Z "LogDisk" "SUM_OF_HALF" "[I" (.ref t) A U H ∧ va_T .int t 16 (fun j => .int (gSum j)) A U H
def gSt (Y : gY) (sz : Nat) (U : State) : Prop := gNs U ∧ gTab (gA Y sz) U U.heap
theorem gSt_calling {Y : gY} {sz : Nat} {U : State} {g : JFrame} {mk : MethodId} {a : Array Value} (h : gSt Y sz U) : gSt Y sz (U.calling g mk a) := by
  obtain ⟨⟨n1, n2, n3, n4⟩, t, hz, ht⟩ := h
  exact ⟨⟨n1.same rfl rfl, n2.same rfl rfl, n3.same rfl rfl, n4.same rfl rfl⟩, t, va_Z.moved (Vm.Alike.refl U.vm) hz, va_T.moved (Vm.Alike.refl U.vm) ht⟩
theorem gSt_call {Y : gY} {s U : State} {H : Heap} {locs : List Loc} (h : gSt Y s.heap.size s) (hS : va_S (gA Y s.heap.size) s.heap H locs) (hU : U.heap = H) (hW : s.WarmedH U.vm) : gSt Y H.size U := by
  obtain ⟨⟨n1, n2, n3, n4⟩, t, hz, ht⟩ := h
  subst hU
  exact ⟨⟨n1.warmM hW, n2.warmM hW, n3.warmM hW, n4.warmM hW⟩, t, va_Z.moved hW.alike ((hz.kept (fun a h1 h2 => hS.2.1 a h1 h2)).narrow (gA_call hS)), va_T.moved hW.alike ((ht.kept (fun a h1 h2 => hS.2.1 a h1 h2)).narrow (gA_call hS))⟩
end
section
/-! Arrays, calls, ends. -/
section
variable {p : Program} {l : Launch} {e : Env} {R : Room} {s : State} {m : MethodId} {args : Array Value} {below : List Frame} {meth : Method} {c : Code} {H : Heap} {locs : List Loc} {cells slots : Nat} {Q : State → Prop}
variable {cc : ByteArray} {pc : Nat} {ls : Array Slot} {rest st0 : List Value} {Y : gY} {S : gS} {i j : gI} {t : Nat}
theorem g_iaload (hx : p.tables.exec = Jvm.exec) (hb : c.code = cc) (hK : va_K (gDd Y) gCl (gTys Y) s) (hP : gWd Y S H) (hi : gis Y gt_int i) {x : Int32} (hin : vp_in x (gLn Y i)) (hdg : decode cc pc = .ok (.iaload, 1))
    (kk : W p l e R s m args below meth c H locs cells slots Q (F0 m (pc + 1) ls (.int (S.1 i x.toNatClampNeg) :: rest))) : W p l e R s m args below meth c H locs cells slots Q (F0 m pc ls (.int x :: .ref (gad Y i) :: rest)) := by
  obtain ⟨q0, -, h1⟩ := gWs_at S hi.2
  rw [gce_int hi.1] at h1
  exact va_iald hx hb hK hP q0 0 h1 rfl hin hdg kk
theorem g_baload (hx : p.tables.exec = Jvm.exec) (hb : c.code = cc) (hK : va_K (gDd Y) gCl (gTys Y) s) (hP : gWd Y S H) (hi : gis Y gt_byte i) {x : Int32} (hin : vp_in x (gLn Y i)) (hdg : decode cc pc = .ok (.baload, 1))
    (kk : W p l e R s m args below meth c H locs cells slots Q (F0 m (pc + 1) ls (.int (S.1 i x.toNatClampNeg) :: rest))) : W p l e R s m args below meth c H locs cells slots Q (F0 m pc ls (.int x :: .ref (gad Y i) :: rest)) := by
  obtain ⟨q0, -, h1⟩ := gWs_at S hi.2
  rw [gce_byte hi.1] at h1
  exact va_bald hx hb hK hP q0 1 h1 rfl hin hdg kk
theorem g_iastore (hx : p.tables.exec = Jvm.exec) (hb : c.code = cc) (hK : va_K (gDd Y) gCl (gTys Y) s) (hJ : gInj Y) (hP : gWd Y S H) (hS : va_S (gA Y s.heap.size) s.heap H locs) (hi : gis Y gt_int i) {x v : Int32} (hin : vp_in x (gLn Y i)) (hdg : decode cc pc = .ok (.iastore, 1))
    (kk : ∀ (S' : gS), S' = gset S i x.toNatClampNeg v → ∀ (H1 : Heap) (locs1 : List Loc), gWd Y S' H1 → va_S (gA Y s.heap.size) s.heap H1 locs1 → W p l e R s m args below meth c H1 locs1 cells slots Q (F0 m (pc + 1) ls rest)) : W p l e R s m args below meth c H locs cells slots Q (F0 m pc ls (.int v :: .int x :: .ref (gad Y i) :: rest)) := by
  obtain ⟨q0, h0, h1⟩ := gWs_at S hi.2
  rw [gce_int hi.1] at h1
  exact va_iast hx hb hK hP (gD hJ) hS q0 0 h1 rfl hin hdg (fun H1 locs1 hP1 _ hS1 => kk _ rfl H1 locs1 (gWd_set hJ h0 (by rw [gce_int hi.1, gset_u]) gce_gset hP1) hS1)
theorem g_bastore (hx : p.tables.exec = Jvm.exec) (hb : c.code = cc) (hK : va_K (gDd Y) gCl (gTys Y) s) (hJ : gInj Y) (hP : gWd Y S H) (hS : va_S (gA Y s.heap.size) s.heap H locs) (hi : gis Y gt_byte i) {x v : Int32} (hin : vp_in x (gLn Y i)) (hdg : decode cc pc = .ok (.bastore, 1))
    (kk : ∀ (S' : gS), S' = gset S i x.toNatClampNeg (vp_nar .byte v) → ∀ (H1 : Heap) (locs1 : List Loc), gWd Y S' H1 → va_S (gA Y s.heap.size) s.heap H1 locs1 → W p l e R s m args below meth c H1 locs1 cells slots Q (F0 m (pc + 1) ls rest)) : W p l e R s m args below meth c H locs cells slots Q (F0 m pc ls (.int v :: .int x :: .ref (gad Y i) :: rest)) := by
  obtain ⟨q0, h0, h1⟩ := gWs_at S hi.2
  rw [gce_byte hi.1] at h1
  exact va_bast hx hb hK hP (gD hJ) hS q0 1 h1 rfl hin hdg (fun H1 locs1 hP1 _ hS1 => kk _ rfl H1 locs1 (gWd_set hJ h0 (by rw [gce_byte hi.1, gset_u]) gce_gset hP1) hS1)
theorem g_alenI (hx : p.tables.exec = Jvm.exec) (hb : c.code = cc) (hK : va_K (gDd Y) gCl (gTys Y) s) (hP : gWd Y S H) (hi : gis Y gt_int i) (hdg : decode cc pc = .ok (.arraylength, 1))
    (kk : W p l e R s m args below meth c H locs cells slots Q (F0 m (pc + 1) ls (.int (Int32.ofNat (gLn Y i)) :: rest))) : W p l e R s m args below meth c H locs cells slots Q (F0 m pc ls (.ref (gad Y i) :: rest)) := by
  obtain ⟨q0, -, h1⟩ := gWs_at S hi.2
  rw [gce_int hi.1] at h1
  exact va_alen hx hb hK hP q0 0 h1 rfl rfl hdg kk
theorem g_alenB (hx : p.tables.exec = Jvm.exec) (hb : c.code = cc) (hK : va_K (gDd Y) gCl (gTys Y) s) (hP : gWd Y S H) (hi : gis Y gt_byte i) (hdg : decode cc pc = .ok (.arraylength, 1))
    (kk : W p l e R s m args below meth c H locs cells slots Q (F0 m (pc + 1) ls (.int (Int32.ofNat (gLn Y i)) :: rest))) : W p l e R s m args below meth c H locs cells slots Q (F0 m pc ls (.ref (gad Y i) :: rest)) := by
  obtain ⟨q0, -, h1⟩ := gWs_at S hi.2
  rw [gce_byte hi.1] at h1
  exact va_alen hx hb hK hP q0 1 h1 rfl rfl hdg kk
theorem g_copyB (hx : p.tables.exec = Jvm.exec) (hb : c.code = cc) (hml : c.maxLocals = ls.size) {own : String} {index : Nat} (hown : s.vm.findClass own = some m.cls) (hlink : (Cond.methodLink own index arraycopyName).before args s = true) (hnat : (Cond.native arraycopyName).before args s = true) (hstat : (Cond.static arraycopyName).before args s = true) (hini : (Cond.initialized "java/lang/System").before args s = true)
    (hK : va_K (gDd Y) gCl (gTys Y) s) (hJ : gInj Y) (hP : gWd Y S H) (hS : va_S (gA Y s.heap.size) s.heap H locs) (hi : gis Y gt_byte i) (hj : gis Y gt_byte j)
    {sp dp n : Int32} (h1 : ¬ sp < 0) (h2 : ¬ dp < 0) (h3 : ¬ n < 0) (h4 : sp.toNatClampNeg + n.toNatClampNeg ≤ gLn Y i) (h5 : dp.toNatClampNeg + n.toNatClampNeg ≤ gLn Y j) (hfit : ∀ a, a < n.toNatClampNeg → fits .byte (.int (S.1 i (sp.toNatClampNeg + a))) = true)
    (hframes : 1 ≤ R.frames) (hlocals : (rest.map fun v => v.category).sum + (nativeFrameWords "java/lang/System" "arraycopy" 5 + 11) ≤ R.locals) (hdg : decode cc pc = .ok (.invokestatic index, 3))
    (kk : ∀ (S' : gS), S' = gcpy S i sp.toNatClampNeg j dp.toNatClampNeg n.toNatClampNeg → ∀ (H1 : Heap) (locs1 : List Loc), gWd Y S' H1 → va_S (gA Y s.heap.size) s.heap H1 locs1 → W p l e R s m args below meth c H1 locs1 cells slots Q (F0 m (pc + 3) ls rest)) : W p l e R s m args below meth c H locs cells slots Q (F0 m pc ls (.int n :: .int dp :: .ref (gad Y j) :: .int sp :: .ref (gad Y i) :: rest)) := by
  obtain ⟨q0, -, r0⟩ := gWs_at S hi.2
  obtain ⟨q1, z1, r1⟩ := gWs_at S hj.2
  rw [gce_byte hi.1] at r0
  rw [gce_byte hj.1] at r1
  refine va_copyi hx hb hml hown hlink hnat hstat hini hK hP (gD hJ) hS q0 q1 1 1 r0 r1 rfl rfl rfl h1 h2 h3 h4 h5 hfit hframes hlocals hdg (fun H1 locs1 hP1 _ hS1 => kk _ rfl H1 locs1 (gWd_set hJ z1 ?_ gce_gcpy hP1) hS1)
  rw [gce_byte hj.1]
  have : (gcpy S i sp.toNatClampNeg j dp.toNatClampNeg n.toNatClampNeg).1 j = va_cpy (S.1 i) (S.1 j) sp.toNatClampNeg dp.toNatClampNeg n.toNatClampNeg := by
    funext k
    show (if j = j then _ else _) = _
    rw [if_pos rfl]
  rw [this]
/-- what a method finds at its start -/
def gPre (Y : gY) (av : List Value) (S : gS) (sz : Nat) (P : Prop) : Array Value → State → Prop := va_Pc av (fun U => U.heap.size = sz ∧ gWd Y S U.heap ∧ va_K (gDd Y) gCl (gTys Y) U ∧ gSt Y sz U ∧ P)
def gB (Y : gY) (S : gS) (t : State) : Prop := gWd Y S t.heap ∧ va_K (gDd Y) gCl (gTys Y) t
theorem gPre_blind {Y : gY} {av : List Value} {S : gS} {sz : Nat} {P : Prop} : FrameBlind (gPre Y av S sz P) := fun a U g mk q => by
  obtain ⟨q0, q1, qP, qK, qS, qW⟩ := q
  exact ⟨q0, q1, qP, va_K.moved (u := U) (U := U.calling g mk a) (Vm.Alike.refl U.vm) qK, gSt_calling qS, qW⟩
theorem g_calli {post : Int32 → gS → Prop} {a : Array Value} (hr : va_Run p l e R s m args below meth c H locs cells slots 0 0 (F0 m pc ls st0) rest (va_Qi post (gB Y) (gA Y H.size) a) (gA Y H.size)) (hS : va_S (gA Y s.heap.size) s.heap H locs)
    (kk : ∀ (r : Int32) (S1 : gS) (H1 : Heap) (locs1 : List Loc), post r S1 → gWd Y S1 H1 → va_S (gA Y s.heap.size) s.heap H1 locs1 → W p l e R s m args below meth c H1 locs1 cells slots Q (F0 m (pc + 3) ls (.int r :: rest))) : W p l e R s m args below meth c H locs cells slots Q (F0 m pc ls st0) :=
  va_calli hr hS (fun q _ h => gA_call hS q h) (gA_call hS) (fun r u t H1 locs1 ht _ hp hB _ _ hS1 => kk r u H1 locs1 hp (by rw [← ht]; exact hB.1) hS1)
theorem g_calll {post : Int64 → gS → Prop} {a : Array Value} (hr : va_Run p l e R s m args below meth c H locs cells slots 0 0 (F0 m pc ls st0) rest (va_Ql post (gB Y) (gA Y H.size) a) (gA Y H.size)) (hS : va_S (gA Y s.heap.size) s.heap H locs)
    (kk : ∀ (r : Int64) (S1 : gS) (H1 : Heap) (locs1 : List Loc), post r S1 → gWd Y S1 H1 → va_S (gA Y s.heap.size) s.heap H1 locs1 → W p l e R s m args below meth c H1 locs1 cells slots Q (F0 m (pc + 3) ls (.long r :: rest))) : W p l e R s m args below meth c H locs cells slots Q (F0 m pc ls st0) :=
  va_calll hr hS (fun q _ h => gA_call hS q h) (gA_call hS) (fun r u t H1 locs1 ht _ hp hB _ _ hS1 => kk r u H1 locs1 hp (by rw [← ht]; exact hB.1) hS1)
theorem g_callv {post : gS → Prop} {a : Array Value} (hr : va_Run p l e R s m args below meth c H locs cells slots 0 0 (F0 m pc ls st0) rest (va_Qv post (gB Y) (gA Y H.size) a) (gA Y H.size)) (hS : va_S (gA Y s.heap.size) s.heap H locs)
    (kk : ∀ (S1 : gS) (H1 : Heap) (locs1 : List Loc), post S1 → gWd Y S1 H1 → va_S (gA Y s.heap.size) s.heap H1 locs1 → W p l e R s m args below meth c H1 locs1 cells slots Q (F0 m (pc + 3) ls rest)) : W p l e R s m args below meth c H locs cells slots Q (F0 m pc ls st0) :=
  va_callv hr hS (fun q _ h => gA_call hS q h) (gA_call hS) (fun u t H1 locs1 ht _ hp hB _ _ hS1 => kk u H1 locs1 hp (by rw [← ht]; exact hB.1) hS1)
end
end
