section
-- ===== PART A: goes FIRST, ahead of the names: the tables' words, and 'selects' of the private methods out of them =====
/-- a private method of a class that the tables say can be made, by its rows of tables_1 -/
def lw_okq (q : MethodName × Nat) : Prop := (q.1.cls ≠ "java/lang/invoke/MethodHandle" ∧ q.1.cls ≠ "java/lang/invoke/VarHandle") ∧ Cond.instantiable q.1.cls q.2 ∈ tables_1 ∧ Cond.privateMethod q.1 ∈ tables_1 ∧ Cond.instanceMethod q.1 ∈ tables_1
theorem lw_p0 : lw_okq (⟨"LogDisk", "syncFiles", "()V"⟩, 12) := ⟨⟨by decide +kernel, by decide +kernel⟩, List.mem_of_getElem? (i := 23) (by decide +kernel), List.mem_of_getElem? (i := 271) (by decide +kernel), List.mem_of_getElem? (i := 272) (by decide +kernel)⟩
theorem lw_p1 : lw_okq (⟨"LogDisk", "crashFiles", "(J)V"⟩, 12) := ⟨⟨by decide +kernel, by decide +kernel⟩, List.mem_of_getElem? (i := 23) (by decide +kernel), List.mem_of_getElem? (i := 302) (by decide +kernel), List.mem_of_getElem? (i := 303) (by decide +kernel)⟩
theorem lw_p2 : lw_okq (⟨"LogDisk", "findVote", "()V"⟩, 12) := ⟨⟨by decide +kernel, by decide +kernel⟩, List.mem_of_getElem? (i := 23) (by decide +kernel), List.mem_of_getElem? (i := 325) (by decide +kernel), List.mem_of_getElem? (i := 326) (by decide +kernel)⟩
theorem lw_p3 : lw_okq (⟨"LogDisk", "findSnapshot", "()V"⟩, 12) := ⟨⟨by decide +kernel, by decide +kernel⟩, List.mem_of_getElem? (i := 23) (by decide +kernel), List.mem_of_getElem? (i := 356) (by decide +kernel), List.mem_of_getElem? (i := 357) (by decide +kernel)⟩
theorem lw_p4 : lw_okq (⟨"LogDisk", "findLog", "()V"⟩, 12) := ⟨⟨by decide +kernel, by decide +kernel⟩, List.mem_of_getElem? (i := 23) (by decide +kernel), List.mem_of_getElem? (i := 364) (by decide +kernel), List.mem_of_getElem? (i := 365) (by decide +kernel)⟩
theorem lw_p5 : lw_okq (⟨"LogDisk", "firstSegment", "()I"⟩, 12) := ⟨⟨by decide +kernel, by decide +kernel⟩, List.mem_of_getElem? (i := 23) (by decide +kernel), List.mem_of_getElem? (i := 368) (by decide +kernel), List.mem_of_getElem? (i := 369) (by decide +kernel)⟩
theorem lw_p6 : lw_okq (⟨"LogDisk", "readSegment", "(I)I"⟩, 12) := ⟨⟨by decide +kernel, by decide +kernel⟩, List.mem_of_getElem? (i := 23) (by decide +kernel), List.mem_of_getElem? (i := 377) (by decide +kernel), List.mem_of_getElem? (i := 378) (by decide +kernel)⟩
theorem lw_p7 : lw_okq (⟨"LogDisk", "holdsBase", "(II)Z"⟩, 12) := ⟨⟨by decide +kernel, by decide +kernel⟩, List.mem_of_getElem? (i := 23) (by decide +kernel), List.mem_of_getElem? (i := 394) (by decide +kernel), List.mem_of_getElem? (i := 395) (by decide +kernel)⟩
theorem lw_p8 : lw_okq (⟨"LogDisk", "followSegments", "(II)V"⟩, 12) := ⟨⟨by decide +kernel, by decide +kernel⟩, List.mem_of_getElem? (i := 23) (by decide +kernel), List.mem_of_getElem? (i := 403) (by decide +kernel), List.mem_of_getElem? (i := 404) (by decide +kernel)⟩
theorem lw_p9 : lw_okq (⟨"LogDisk", "segmentBehind", "(II)I"⟩, 12) := ⟨⟨by decide +kernel, by decide +kernel⟩, List.mem_of_getElem? (i := 23) (by decide +kernel), List.mem_of_getElem? (i := 411) (by decide +kernel), List.mem_of_getElem? (i := 412) (by decide +kernel)⟩
theorem lw_p10 : lw_okq (⟨"java/lang/Throwable", "fillInStackTrace", "(I)Ljava/lang/Throwable;"⟩, 6) := ⟨⟨by decide +kernel, by decide +kernel⟩, List.mem_of_getElem? (i := 475) (by decide +kernel), List.mem_of_getElem? (i := 473) (by decide +kernel), List.mem_of_getElem? (i := 474) (by decide +kernel)⟩
theorem lw_p11 : lw_okq (⟨"LogDisk", "writeVote", "()V"⟩, 12) := ⟨⟨by decide +kernel, by decide +kernel⟩, List.mem_of_getElem? (i := 23) (by decide +kernel), List.mem_of_getElem? (i := 560) (by decide +kernel), List.mem_of_getElem? (i := 561) (by decide +kernel)⟩
theorem lw_p12 : lw_okq (⟨"LogDisk", "termAt", "(I)I"⟩, 12) := ⟨⟨by decide +kernel, by decide +kernel⟩, List.mem_of_getElem? (i := 23) (by decide +kernel), List.mem_of_getElem? (i := 612) (by decide +kernel), List.mem_of_getElem? (i := 613) (by decide +kernel)⟩
theorem lw_p13 : lw_okq (⟨"LogDisk", "isInLog", "(I)Z"⟩, 12) := ⟨⟨by decide +kernel, by decide +kernel⟩, List.mem_of_getElem? (i := 23) (by decide +kernel), List.mem_of_getElem? (i := 616) (by decide +kernel), List.mem_of_getElem? (i := 617) (by decide +kernel)⟩
theorem lw_p14 : lw_okq (⟨"LogDisk", "needsNewSegment", "()Z"⟩, 12) := ⟨⟨by decide +kernel, by decide +kernel⟩, List.mem_of_getElem? (i := 23) (by decide +kernel), List.mem_of_getElem? (i := 623) (by decide +kernel), List.mem_of_getElem? (i := 624) (by decide +kernel)⟩
theorem lw_p15 : lw_okq (⟨"LogDisk", "lowestFreeFile", "()I"⟩, 12) := ⟨⟨by decide +kernel, by decide +kernel⟩, List.mem_of_getElem? (i := 23) (by decide +kernel), List.mem_of_getElem? (i := 631) (by decide +kernel), List.mem_of_getElem? (i := 632) (by decide +kernel)⟩
def lw_privs_1 : List (MethodName × Nat) := [(⟨"LogDisk", "syncFiles", "()V"⟩, 12), (⟨"LogDisk", "crashFiles", "(J)V"⟩, 12), (⟨"LogDisk", "findVote", "()V"⟩, 12), (⟨"LogDisk", "findSnapshot", "()V"⟩, 12), (⟨"LogDisk", "findLog", "()V"⟩, 12), (⟨"LogDisk", "firstSegment", "()I"⟩, 12), (⟨"LogDisk", "readSegment", "(I)I"⟩, 12), (⟨"LogDisk", "holdsBase", "(II)Z"⟩, 12), (⟨"LogDisk", "followSegments", "(II)V"⟩, 12), (⟨"LogDisk", "segmentBehind", "(II)I"⟩, 12), (⟨"java/lang/Throwable", "fillInStackTrace", "(I)Ljava/lang/Throwable;"⟩, 6), (⟨"LogDisk", "writeVote", "()V"⟩, 12), (⟨"LogDisk", "termAt", "(I)I"⟩, 12), (⟨"LogDisk", "isInLog", "(I)Z"⟩, 12), (⟨"LogDisk", "needsNewSegment", "()Z"⟩, 12), (⟨"LogDisk", "lowestFreeFile", "()I"⟩, 12)]
theorem lw_r1 : ∀ q ∈ lw_privs_1, lw_okq q := List.forall_mem_cons.mpr ⟨lw_p0, List.forall_mem_cons.mpr ⟨lw_p1, List.forall_mem_cons.mpr ⟨lw_p2, List.forall_mem_cons.mpr ⟨lw_p3, List.forall_mem_cons.mpr ⟨lw_p4, List.forall_mem_cons.mpr ⟨lw_p5, List.forall_mem_cons.mpr ⟨lw_p6, List.forall_mem_cons.mpr ⟨lw_p7, List.forall_mem_cons.mpr ⟨lw_p8, List.forall_mem_cons.mpr ⟨lw_p9, List.forall_mem_cons.mpr ⟨lw_p10, List.forall_mem_cons.mpr ⟨lw_p11, List.forall_mem_cons.mpr ⟨lw_p12, List.forall_mem_cons.mpr ⟨lw_p13, List.forall_mem_cons.mpr ⟨lw_p14, List.forall_mem_cons.mpr ⟨lw_p15, fun _ h => absurd h List.not_mem_nil⟩⟩⟩⟩⟩⟩⟩⟩⟩⟩⟩⟩⟩⟩⟩⟩
theorem lw_p16 : lw_okq (⟨"LogDisk", "openSegment", "(I)V"⟩, 12) := ⟨⟨by decide +kernel, by decide +kernel⟩, List.mem_of_getElem? (i := 23) (by decide +kernel), List.mem_of_getElem? (i := 639) (by decide +kernel), List.mem_of_getElem? (i := 640) (by decide +kernel)⟩
theorem lw_p17 : lw_okq (⟨"LogDisk", "writeEntry", "(IIII)V"⟩, 12) := ⟨⟨by decide +kernel, by decide +kernel⟩, List.mem_of_getElem? (i := 23) (by decide +kernel), List.mem_of_getElem? (i := 643) (by decide +kernel), List.mem_of_getElem? (i := 644) (by decide +kernel)⟩
theorem lw_p18 : lw_okq (⟨"LogDisk", "moveBase", "(IIII)V"⟩, 12) := ⟨⟨by decide +kernel, by decide +kernel⟩, List.mem_of_getElem? (i := 23) (by decide +kernel), List.mem_of_getElem? (i := 687) (by decide +kernel), List.mem_of_getElem? (i := 688) (by decide +kernel)⟩
theorem lw_p19 : lw_okq (⟨"LogDisk", "dropSegments", "()V"⟩, 12) := ⟨⟨by decide +kernel, by decide +kernel⟩, List.mem_of_getElem? (i := 23) (by decide +kernel), List.mem_of_getElem? (i := 691) (by decide +kernel), List.mem_of_getElem? (i := 692) (by decide +kernel)⟩
theorem lw_p20 : lw_okq (⟨"LogDisk", "snapshotBytes", "()I"⟩, 12) := ⟨⟨by decide +kernel, by decide +kernel⟩, List.mem_of_getElem? (i := 23) (by decide +kernel), List.mem_of_getElem? (i := 731) (by decide +kernel), List.mem_of_getElem? (i := 732) (by decide +kernel)⟩
theorem lw_p21 : lw_okq (⟨"LogDiskModel", "fail", "(I)I"⟩, 35) := ⟨⟨by decide +kernel, by decide +kernel⟩, List.mem_of_getElem? (i := 802) (by decide +kernel), List.mem_of_getElem? (i := 926) (by decide +kernel), List.mem_of_getElem? (i := 927) (by decide +kernel)⟩
theorem lw_p22 : lw_okq (⟨"LogDiskModel", "hasRoomAnew", "(II)Z"⟩, 35) := ⟨⟨by decide +kernel, by decide +kernel⟩, List.mem_of_getElem? (i := 802) (by decide +kernel), List.mem_of_getElem? (i := 939) (by decide +kernel), List.mem_of_getElem? (i := 940) (by decide +kernel)⟩
theorem lw_p23 : lw_okq (⟨"LogDiskModel", "pagesUsed", "()I"⟩, 35) := ⟨⟨by decide +kernel, by decide +kernel⟩, List.mem_of_getElem? (i := 802) (by decide +kernel), List.mem_of_getElem? (i := 943) (by decide +kernel), List.mem_of_getElem? (i := 944) (by decide +kernel)⟩
theorem lw_p24 : lw_okq (⟨"LogDiskModel", "cut", "(II)V"⟩, 35) := ⟨⟨by decide +kernel, by decide +kernel⟩, List.mem_of_getElem? (i := 802) (by decide +kernel), List.mem_of_getElem? (i := 950) (by decide +kernel), List.mem_of_getElem? (i := 951) (by decide +kernel)⟩
theorem lw_p25 : lw_okq (⟨"LogDiskModel", "space", "(I)I"⟩, 35) := ⟨⟨by decide +kernel, by decide +kernel⟩, List.mem_of_getElem? (i := 802) (by decide +kernel), List.mem_of_getElem? (i := 954) (by decide +kernel), List.mem_of_getElem? (i := 955) (by decide +kernel)⟩
theorem lw_p26 : lw_okq (⟨"LogDiskModel", "payload", "(I)I"⟩, 35) := ⟨⟨by decide +kernel, by decide +kernel⟩, List.mem_of_getElem? (i := 802) (by decide +kernel), List.mem_of_getElem? (i := 958) (by decide +kernel), List.mem_of_getElem? (i := 959) (by decide +kernel)⟩
theorem lw_p27 : lw_okq (⟨"LogDiskModel", "make", "(IIII)I"⟩, 35) := ⟨⟨by decide +kernel, by decide +kernel⟩, List.mem_of_getElem? (i := 802) (by decide +kernel), List.mem_of_getElem? (i := 962) (by decide +kernel), List.mem_of_getElem? (i := 963) (by decide +kernel)⟩
theorem lw_p28 : lw_okq (⟨"LogDiskModel", "put", "(II)V"⟩, 35) := ⟨⟨by decide +kernel, by decide +kernel⟩, List.mem_of_getElem? (i := 802) (by decide +kernel), List.mem_of_getElem? (i := 966) (by decide +kernel), List.mem_of_getElem? (i := 967) (by decide +kernel)⟩
theorem lw_p29 : lw_okq (⟨"LogDiskModel", "termOf", "(I)I"⟩, 35) := ⟨⟨by decide +kernel, by decide +kernel⟩, List.mem_of_getElem? (i := 802) (by decide +kernel), List.mem_of_getElem? (i := 974) (by decide +kernel), List.mem_of_getElem? (i := 975) (by decide +kernel)⟩
theorem lw_p30 : lw_okq (⟨"LogDiskModel", "freeFile", "()I"⟩, 35) := ⟨⟨by decide +kernel, by decide +kernel⟩, List.mem_of_getElem? (i := 802) (by decide +kernel), List.mem_of_getElem? (i := 978) (by decide +kernel), List.mem_of_getElem? (i := 979) (by decide +kernel)⟩
theorem lw_p31 : lw_okq (⟨"LogDiskModel", "hasRoom", "(II)Z"⟩, 35) := ⟨⟨by decide +kernel, by decide +kernel⟩, List.mem_of_getElem? (i := 802) (by decide +kernel), List.mem_of_getElem? (i := 982) (by decide +kernel), List.mem_of_getElem? (i := 983) (by decide +kernel)⟩
def lw_privs_2 : List (MethodName × Nat) := [(⟨"LogDisk", "openSegment", "(I)V"⟩, 12), (⟨"LogDisk", "writeEntry", "(IIII)V"⟩, 12), (⟨"LogDisk", "moveBase", "(IIII)V"⟩, 12), (⟨"LogDisk", "dropSegments", "()V"⟩, 12), (⟨"LogDisk", "snapshotBytes", "()I"⟩, 12), (⟨"LogDiskModel", "fail", "(I)I"⟩, 35), (⟨"LogDiskModel", "hasRoomAnew", "(II)Z"⟩, 35), (⟨"LogDiskModel", "pagesUsed", "()I"⟩, 35), (⟨"LogDiskModel", "cut", "(II)V"⟩, 35), (⟨"LogDiskModel", "space", "(I)I"⟩, 35), (⟨"LogDiskModel", "payload", "(I)I"⟩, 35), (⟨"LogDiskModel", "make", "(IIII)I"⟩, 35), (⟨"LogDiskModel", "put", "(II)V"⟩, 35), (⟨"LogDiskModel", "termOf", "(I)I"⟩, 35), (⟨"LogDiskModel", "freeFile", "()I"⟩, 35), (⟨"LogDiskModel", "hasRoom", "(II)Z"⟩, 35)]
theorem lw_r2 : ∀ q ∈ lw_privs_2, lw_okq q := List.forall_mem_cons.mpr ⟨lw_p16, List.forall_mem_cons.mpr ⟨lw_p17, List.forall_mem_cons.mpr ⟨lw_p18, List.forall_mem_cons.mpr ⟨lw_p19, List.forall_mem_cons.mpr ⟨lw_p20, List.forall_mem_cons.mpr ⟨lw_p21, List.forall_mem_cons.mpr ⟨lw_p22, List.forall_mem_cons.mpr ⟨lw_p23, List.forall_mem_cons.mpr ⟨lw_p24, List.forall_mem_cons.mpr ⟨lw_p25, List.forall_mem_cons.mpr ⟨lw_p26, List.forall_mem_cons.mpr ⟨lw_p27, List.forall_mem_cons.mpr ⟨lw_p28, List.forall_mem_cons.mpr ⟨lw_p29, List.forall_mem_cons.mpr ⟨lw_p30, List.forall_mem_cons.mpr ⟨lw_p31, fun _ h => absurd h List.not_mem_nil⟩⟩⟩⟩⟩⟩⟩⟩⟩⟩⟩⟩⟩⟩⟩⟩
theorem lw_p32 : lw_okq (⟨"LogDiskModel", "needed", "(II)I"⟩, 35) := ⟨⟨by decide +kernel, by decide +kernel⟩, List.mem_of_getElem? (i := 802) (by decide +kernel), List.mem_of_getElem? (i := 986) (by decide +kernel), List.mem_of_getElem? (i := 987) (by decide +kernel)⟩
theorem lw_p33 : lw_okq (⟨"LogDiskModel", "fill", "(II)V"⟩, 35) := ⟨⟨by decide +kernel, by decide +kernel⟩, List.mem_of_getElem? (i := 802) (by decide +kernel), List.mem_of_getElem? (i := 990) (by decide +kernel), List.mem_of_getElem? (i := 991) (by decide +kernel)⟩
theorem lw_p34 : lw_okq (⟨"LogDiskModel", "firstOf", "(I)I"⟩, 35) := ⟨⟨by decide +kernel, by decide +kernel⟩, List.mem_of_getElem? (i := 802) (by decide +kernel), List.mem_of_getElem? (i := 998) (by decide +kernel), List.mem_of_getElem? (i := 999) (by decide +kernel)⟩
theorem lw_p35 : lw_okq (⟨"LogDiskModel", "remove", "(I)V"⟩, 35) := ⟨⟨by decide +kernel, by decide +kernel⟩, List.mem_of_getElem? (i := 802) (by decide +kernel), List.mem_of_getElem? (i := 1002) (by decide +kernel), List.mem_of_getElem? (i := 1003) (by decide +kernel)⟩
theorem lw_p36 : lw_okq (⟨"LogDiskModel", "placeIn", "(II)I"⟩, 35) := ⟨⟨by decide +kernel, by decide +kernel⟩, List.mem_of_getElem? (i := 802) (by decide +kernel), List.mem_of_getElem? (i := 1006) (by decide +kernel), List.mem_of_getElem? (i := 1007) (by decide +kernel)⟩
theorem lw_p37 : lw_okq (⟨"LogDiskModel", "write", "(IIII)Z"⟩, 35) := ⟨⟨by decide +kernel, by decide +kernel⟩, List.mem_of_getElem? (i := 802) (by decide +kernel), List.mem_of_getElem? (i := 1014) (by decide +kernel), List.mem_of_getElem? (i := 1015) (by decide +kernel)⟩
theorem lw_p38 : lw_okq (⟨"LogDiskModel", "settle", "(I)V"⟩, 35) := ⟨⟨by decide +kernel, by decide +kernel⟩, List.mem_of_getElem? (i := 802) (by decide +kernel), List.mem_of_getElem? (i := 1018) (by decide +kernel), List.mem_of_getElem? (i := 1019) (by decide +kernel)⟩
theorem lw_p39 : lw_okq (⟨"LogDiskModel", "copy", "(II)V"⟩, 35) := ⟨⟨by decide +kernel, by decide +kernel⟩, List.mem_of_getElem? (i := 802) (by decide +kernel), List.mem_of_getElem? (i := 1022) (by decide +kernel), List.mem_of_getElem? (i := 1023) (by decide +kernel)⟩
theorem lw_p40 : lw_okq (⟨"LogDiskModel", "rebase", "(II)V"⟩, 35) := ⟨⟨by decide +kernel, by decide +kernel⟩, List.mem_of_getElem? (i := 802) (by decide +kernel), List.mem_of_getElem? (i := 1026) (by decide +kernel), List.mem_of_getElem? (i := 1027) (by decide +kernel)⟩
theorem lw_p41 : lw_okq (⟨"LogDiskModel", "lastOf", "(I)I"⟩, 35) := ⟨⟨by decide +kernel, by decide +kernel⟩, List.mem_of_getElem? (i := 802) (by decide +kernel), List.mem_of_getElem? (i := 1030) (by decide +kernel), List.mem_of_getElem? (i := 1031) (by decide +kernel)⟩
theorem lw_p42 : lw_okq (⟨"LogDiskModel", "crashFile", "(II)V"⟩, 35) := ⟨⟨by decide +kernel, by decide +kernel⟩, List.mem_of_getElem? (i := 802) (by decide +kernel), List.mem_of_getElem? (i := 1054) (by decide +kernel), List.mem_of_getElem? (i := 1055) (by decide +kernel)⟩
theorem lw_p43 : lw_okq (⟨"LogDiskModel", "findSlots", "()V"⟩, 35) := ⟨⟨by decide +kernel, by decide +kernel⟩, List.mem_of_getElem? (i := 802) (by decide +kernel), List.mem_of_getElem? (i := 1058) (by decide +kernel), List.mem_of_getElem? (i := 1059) (by decide +kernel)⟩
theorem lw_p44 : lw_okq (⟨"LogDiskModel", "whole", "(I)I"⟩, 35) := ⟨⟨by decide +kernel, by decide +kernel⟩, List.mem_of_getElem? (i := 802) (by decide +kernel), List.mem_of_getElem? (i := 1062) (by decide +kernel), List.mem_of_getElem? (i := 1063) (by decide +kernel)⟩
theorem lw_p45 : lw_okq (⟨"LogDiskModel", "findSnapshot", "()V"⟩, 35) := ⟨⟨by decide +kernel, by decide +kernel⟩, List.mem_of_getElem? (i := 802) (by decide +kernel), List.mem_of_getElem? (i := 1066) (by decide +kernel), List.mem_of_getElem? (i := 1067) (by decide +kernel)⟩
theorem lw_p46 : lw_okq (⟨"LogDiskModel", "firstSegment", "()I"⟩, 35) := ⟨⟨by decide +kernel, by decide +kernel⟩, List.mem_of_getElem? (i := 802) (by decide +kernel), List.mem_of_getElem? (i := 1070) (by decide +kernel), List.mem_of_getElem? (i := 1071) (by decide +kernel)⟩
theorem lw_p47 : lw_okq (⟨"LogDiskModel", "join", "(I)V"⟩, 35) := ⟨⟨by decide +kernel, by decide +kernel⟩, List.mem_of_getElem? (i := 802) (by decide +kernel), List.mem_of_getElem? (i := 1074) (by decide +kernel), List.mem_of_getElem? (i := 1075) (by decide +kernel)⟩
def lw_privs_3 : List (MethodName × Nat) := [(⟨"LogDiskModel", "needed", "(II)I"⟩, 35), (⟨"LogDiskModel", "fill", "(II)V"⟩, 35), (⟨"LogDiskModel", "firstOf", "(I)I"⟩, 35), (⟨"LogDiskModel", "remove", "(I)V"⟩, 35), (⟨"LogDiskModel", "placeIn", "(II)I"⟩, 35), (⟨"LogDiskModel", "write", "(IIII)Z"⟩, 35), (⟨"LogDiskModel", "settle", "(I)V"⟩, 35), (⟨"LogDiskModel", "copy", "(II)V"⟩, 35), (⟨"LogDiskModel", "rebase", "(II)V"⟩, 35), (⟨"LogDiskModel", "lastOf", "(I)I"⟩, 35), (⟨"LogDiskModel", "crashFile", "(II)V"⟩, 35), (⟨"LogDiskModel", "findSlots", "()V"⟩, 35), (⟨"LogDiskModel", "whole", "(I)I"⟩, 35), (⟨"LogDiskModel", "findSnapshot", "()V"⟩, 35), (⟨"LogDiskModel", "firstSegment", "()I"⟩, 35), (⟨"LogDiskModel", "join", "(I)V"⟩, 35)]
theorem lw_r3 : ∀ q ∈ lw_privs_3, lw_okq q := List.forall_mem_cons.mpr ⟨lw_p32, List.forall_mem_cons.mpr ⟨lw_p33, List.forall_mem_cons.mpr ⟨lw_p34, List.forall_mem_cons.mpr ⟨lw_p35, List.forall_mem_cons.mpr ⟨lw_p36, List.forall_mem_cons.mpr ⟨lw_p37, List.forall_mem_cons.mpr ⟨lw_p38, List.forall_mem_cons.mpr ⟨lw_p39, List.forall_mem_cons.mpr ⟨lw_p40, List.forall_mem_cons.mpr ⟨lw_p41, List.forall_mem_cons.mpr ⟨lw_p42, List.forall_mem_cons.mpr ⟨lw_p43, List.forall_mem_cons.mpr ⟨lw_p44, List.forall_mem_cons.mpr ⟨lw_p45, List.forall_mem_cons.mpr ⟨lw_p46, List.forall_mem_cons.mpr ⟨lw_p47, fun _ h => absurd h List.not_mem_nil⟩⟩⟩⟩⟩⟩⟩⟩⟩⟩⟩⟩⟩⟩⟩⟩
theorem lw_p48 : lw_okq (⟨"LogDiskModel", "nextSegment", "()I"⟩, 35) := ⟨⟨by decide +kernel, by decide +kernel⟩, List.mem_of_getElem? (i := 802) (by decide +kernel), List.mem_of_getElem? (i := 1078) (by decide +kernel), List.mem_of_getElem? (i := 1079) (by decide +kernel)⟩
theorem lw_p49 : lw_okq (⟨"LogDiskModel", "isJoined", "(I)Z"⟩, 35) := ⟨⟨by decide +kernel, by decide +kernel⟩, List.mem_of_getElem? (i := 802) (by decide +kernel), List.mem_of_getElem? (i := 1082) (by decide +kernel), List.mem_of_getElem? (i := 1083) (by decide +kernel)⟩
theorem lw_p50 : lw_okq (⟨"LogDiskModel", "fileOf", "(I)I"⟩, 35) := ⟨⟨by decide +kernel, by decide +kernel⟩, List.mem_of_getElem? (i := 802) (by decide +kernel), List.mem_of_getElem? (i := 1094) (by decide +kernel), List.mem_of_getElem? (i := 1095) (by decide +kernel)⟩
theorem lw_p51 : lw_okq (⟨"LogDiskModel", "frameAt", "(II)I"⟩, 35) := ⟨⟨by decide +kernel, by decide +kernel⟩, List.mem_of_getElem? (i := 802) (by decide +kernel), List.mem_of_getElem? (i := 1118) (by decide +kernel), List.mem_of_getElem? (i := 1119) (by decide +kernel)⟩
theorem lw_p52 : lw_okq (⟨"LogDiskModel", "sumOf", "(I)I"⟩, 35) := ⟨⟨by decide +kernel, by decide +kernel⟩, List.mem_of_getElem? (i := 802) (by decide +kernel), List.mem_of_getElem? (i := 1122) (by decide +kernel), List.mem_of_getElem? (i := 1123) (by decide +kernel)⟩
theorem lw_p53 : lw_okq (⟨"LogDiskModel", "payloadAt", "(II)I"⟩, 35) := ⟨⟨by decide +kernel, by decide +kernel⟩, List.mem_of_getElem? (i := 802) (by decide +kernel), List.mem_of_getElem? (i := 1126) (by decide +kernel), List.mem_of_getElem? (i := 1127) (by decide +kernel)⟩
def lw_privs_4 : List (MethodName × Nat) := [(⟨"LogDiskModel", "nextSegment", "()I"⟩, 35), (⟨"LogDiskModel", "isJoined", "(I)Z"⟩, 35), (⟨"LogDiskModel", "fileOf", "(I)I"⟩, 35), (⟨"LogDiskModel", "frameAt", "(II)I"⟩, 35), (⟨"LogDiskModel", "sumOf", "(I)I"⟩, 35), (⟨"LogDiskModel", "payloadAt", "(II)I"⟩, 35)]
theorem lw_r4 : ∀ q ∈ lw_privs_4, lw_okq q := List.forall_mem_cons.mpr ⟨lw_p48, List.forall_mem_cons.mpr ⟨lw_p49, List.forall_mem_cons.mpr ⟨lw_p50, List.forall_mem_cons.mpr ⟨lw_p51, List.forall_mem_cons.mpr ⟨lw_p52, List.forall_mem_cons.mpr ⟨lw_p53, fun _ h => absurd h List.not_mem_nil⟩⟩⟩⟩⟩⟩
def lw_privs : List (MethodName × Nat) := lw_privs_1 ++ (lw_privs_2 ++ (lw_privs_3 ++ (lw_privs_4)))
def lw_tbl : List Cond := k2_sels lw_privs ++ tables_1
theorem lw_privs_ok : ∀ q ∈ lw_privs, lw_okq q := by
  show ∀ q ∈ lw_privs_1 ++ (lw_privs_2 ++ (lw_privs_3 ++ (lw_privs_4))), lw_okq q
  exact List.forall_mem_append.mpr ⟨lw_r1, List.forall_mem_append.mpr ⟨lw_r2, List.forall_mem_append.mpr ⟨lw_r3, lw_r4⟩⟩⟩
end
section
/-! The tables' words that calls keep, each by its place. -/
def gTb : List Cond := lw_tbl.filter goodWord
theorem gTb_in {w : Cond} (i : Nat) (h : lw_tbl[i]? = some w) (g : goodWord w = true) : w ∈ gTb := List.mem_filter.mpr ⟨List.mem_of_getElem? h, g⟩
theorem gTb_good {x : Cond} {ws : List Cond} (h : ∀ w ∈ ws, w ∈ gTb) : GoodIn (x :: gTb) ws := fun w hw => ⟨List.mem_cons_of_mem _ (h w hw), good_of_word (List.mem_filter.mp (h w hw)).2⟩
theorem gT_1 {w : Cond} (i : Nat) (h : tables_1_1[i]? = some w) (g : goodWord w = true) : w ∈ gTb := List.mem_filter.mpr ⟨List.mem_append_right _ (List.mem_append_left _ (List.mem_of_getElem? h)), g⟩
theorem gT_2 {w : Cond} (i : Nat) (h : tables_1_2[i]? = some w) (g : goodWord w = true) : w ∈ gTb := List.mem_filter.mpr ⟨List.mem_append_right _ (List.mem_append_right _ (List.mem_append_left _ (List.mem_of_getElem? h))), g⟩
theorem gT_3 {w : Cond} (i : Nat) (h : tables_1_3[i]? = some w) (g : goodWord w = true) : w ∈ gTb := List.mem_filter.mpr ⟨List.mem_append_right _ (List.mem_append_right _ (List.mem_append_right _ (List.mem_append_left _ (List.mem_of_getElem? h)))), g⟩
theorem gT_4 {w : Cond} (i : Nat) (h : tables_1_4[i]? = some w) (g : goodWord w = true) : w ∈ gTb := List.mem_filter.mpr ⟨List.mem_append_right _ (List.mem_append_right _ (List.mem_append_right _ (List.mem_append_right _ (List.mem_append_left _ (List.mem_of_getElem? h))))), g⟩
theorem gT_5 {w : Cond} (i : Nat) (h : tables_1_5[i]? = some w) (g : goodWord w = true) : w ∈ gTb := List.mem_filter.mpr ⟨List.mem_append_right _ (List.mem_append_right _ (List.mem_append_right _ (List.mem_append_right _ (List.mem_append_right _ ((List.mem_of_getElem? h)))))), g⟩
theorem gs_0 : Cond.selects "LogDisk" ⟨"LogDisk", "syncFiles", "()V"⟩ ⟨"LogDisk", "syncFiles", "()V"⟩ ∈ gTb := gTb_in 0 rfl rfl
theorem gs_1 : Cond.selects "LogDisk" ⟨"LogDisk", "crashFiles", "(J)V"⟩ ⟨"LogDisk", "crashFiles", "(J)V"⟩ ∈ gTb := gTb_in 1 rfl rfl
theorem gs_2 : Cond.selects "LogDisk" ⟨"LogDisk", "findVote", "()V"⟩ ⟨"LogDisk", "findVote", "()V"⟩ ∈ gTb := gTb_in 2 rfl rfl
theorem gs_3 : Cond.selects "LogDisk" ⟨"LogDisk", "findSnapshot", "()V"⟩ ⟨"LogDisk", "findSnapshot", "()V"⟩ ∈ gTb := gTb_in 3 rfl rfl
theorem gs_4 : Cond.selects "LogDisk" ⟨"LogDisk", "findLog", "()V"⟩ ⟨"LogDisk", "findLog", "()V"⟩ ∈ gTb := gTb_in 4 rfl rfl
theorem gs_5 : Cond.selects "LogDisk" ⟨"LogDisk", "firstSegment", "()I"⟩ ⟨"LogDisk", "firstSegment", "()I"⟩ ∈ gTb := gTb_in 5 rfl rfl
theorem gs_6 : Cond.selects "LogDisk" ⟨"LogDisk", "readSegment", "(I)I"⟩ ⟨"LogDisk", "readSegment", "(I)I"⟩ ∈ gTb := gTb_in 6 rfl rfl
theorem gs_7 : Cond.selects "LogDisk" ⟨"LogDisk", "holdsBase", "(II)Z"⟩ ⟨"LogDisk", "holdsBase", "(II)Z"⟩ ∈ gTb := gTb_in 7 rfl rfl
theorem gs_8 : Cond.selects "LogDisk" ⟨"LogDisk", "followSegments", "(II)V"⟩ ⟨"LogDisk", "followSegments", "(II)V"⟩ ∈ gTb := gTb_in 8 rfl rfl
theorem gs_9 : Cond.selects "LogDisk" ⟨"LogDisk", "segmentBehind", "(II)I"⟩ ⟨"LogDisk", "segmentBehind", "(II)I"⟩ ∈ gTb := gTb_in 9 rfl rfl
theorem gs_10 : Cond.selects "java/lang/Throwable" ⟨"java/lang/Throwable", "fillInStackTrace", "(I)Ljava/lang/Throwable;"⟩ ⟨"java/lang/Throwable", "fillInStackTrace", "(I)Ljava/lang/Throwable;"⟩ ∈ gTb := gTb_in 10 rfl rfl
theorem gs_11 : Cond.selects "LogDisk" ⟨"LogDisk", "writeVote", "()V"⟩ ⟨"LogDisk", "writeVote", "()V"⟩ ∈ gTb := gTb_in 11 rfl rfl
theorem gs_12 : Cond.selects "LogDisk" ⟨"LogDisk", "termAt", "(I)I"⟩ ⟨"LogDisk", "termAt", "(I)I"⟩ ∈ gTb := gTb_in 12 rfl rfl
theorem gs_13 : Cond.selects "LogDisk" ⟨"LogDisk", "isInLog", "(I)Z"⟩ ⟨"LogDisk", "isInLog", "(I)Z"⟩ ∈ gTb := gTb_in 13 rfl rfl
theorem gs_14 : Cond.selects "LogDisk" ⟨"LogDisk", "needsNewSegment", "()Z"⟩ ⟨"LogDisk", "needsNewSegment", "()Z"⟩ ∈ gTb := gTb_in 14 rfl rfl
theorem gs_15 : Cond.selects "LogDisk" ⟨"LogDisk", "lowestFreeFile", "()I"⟩ ⟨"LogDisk", "lowestFreeFile", "()I"⟩ ∈ gTb := gTb_in 15 rfl rfl
theorem gs_16 : Cond.selects "LogDisk" ⟨"LogDisk", "openSegment", "(I)V"⟩ ⟨"LogDisk", "openSegment", "(I)V"⟩ ∈ gTb := gTb_in 16 rfl rfl
theorem gs_17 : Cond.selects "LogDisk" ⟨"LogDisk", "writeEntry", "(IIII)V"⟩ ⟨"LogDisk", "writeEntry", "(IIII)V"⟩ ∈ gTb := gTb_in 17 rfl rfl
theorem gs_18 : Cond.selects "LogDisk" ⟨"LogDisk", "moveBase", "(IIII)V"⟩ ⟨"LogDisk", "moveBase", "(IIII)V"⟩ ∈ gTb := gTb_in 18 rfl rfl
theorem gs_19 : Cond.selects "LogDisk" ⟨"LogDisk", "dropSegments", "()V"⟩ ⟨"LogDisk", "dropSegments", "()V"⟩ ∈ gTb := gTb_in 19 rfl rfl
theorem gs_20 : Cond.selects "LogDisk" ⟨"LogDisk", "snapshotBytes", "()I"⟩ ⟨"LogDisk", "snapshotBytes", "()I"⟩ ∈ gTb := gTb_in 20 rfl rfl
theorem gs_21 : Cond.selects "LogDiskModel" ⟨"LogDiskModel", "fail", "(I)I"⟩ ⟨"LogDiskModel", "fail", "(I)I"⟩ ∈ gTb := gTb_in 21 rfl rfl
theorem gs_22 : Cond.selects "LogDiskModel" ⟨"LogDiskModel", "hasRoomAnew", "(II)Z"⟩ ⟨"LogDiskModel", "hasRoomAnew", "(II)Z"⟩ ∈ gTb := gTb_in 22 rfl rfl
theorem gs_23 : Cond.selects "LogDiskModel" ⟨"LogDiskModel", "pagesUsed", "()I"⟩ ⟨"LogDiskModel", "pagesUsed", "()I"⟩ ∈ gTb := gTb_in 23 rfl rfl
theorem gs_24 : Cond.selects "LogDiskModel" ⟨"LogDiskModel", "cut", "(II)V"⟩ ⟨"LogDiskModel", "cut", "(II)V"⟩ ∈ gTb := gTb_in 24 rfl rfl
theorem gs_25 : Cond.selects "LogDiskModel" ⟨"LogDiskModel", "space", "(I)I"⟩ ⟨"LogDiskModel", "space", "(I)I"⟩ ∈ gTb := gTb_in 25 rfl rfl
theorem gs_26 : Cond.selects "LogDiskModel" ⟨"LogDiskModel", "payload", "(I)I"⟩ ⟨"LogDiskModel", "payload", "(I)I"⟩ ∈ gTb := gTb_in 26 rfl rfl
theorem gs_27 : Cond.selects "LogDiskModel" ⟨"LogDiskModel", "make", "(IIII)I"⟩ ⟨"LogDiskModel", "make", "(IIII)I"⟩ ∈ gTb := gTb_in 27 rfl rfl
theorem gs_28 : Cond.selects "LogDiskModel" ⟨"LogDiskModel", "put", "(II)V"⟩ ⟨"LogDiskModel", "put", "(II)V"⟩ ∈ gTb := gTb_in 28 rfl rfl
theorem gs_29 : Cond.selects "LogDiskModel" ⟨"LogDiskModel", "termOf", "(I)I"⟩ ⟨"LogDiskModel", "termOf", "(I)I"⟩ ∈ gTb := gTb_in 29 rfl rfl
theorem gs_30 : Cond.selects "LogDiskModel" ⟨"LogDiskModel", "freeFile", "()I"⟩ ⟨"LogDiskModel", "freeFile", "()I"⟩ ∈ gTb := gTb_in 30 rfl rfl
theorem gs_31 : Cond.selects "LogDiskModel" ⟨"LogDiskModel", "hasRoom", "(II)Z"⟩ ⟨"LogDiskModel", "hasRoom", "(II)Z"⟩ ∈ gTb := gTb_in 31 rfl rfl
theorem gs_32 : Cond.selects "LogDiskModel" ⟨"LogDiskModel", "needed", "(II)I"⟩ ⟨"LogDiskModel", "needed", "(II)I"⟩ ∈ gTb := gTb_in 32 rfl rfl
theorem gs_33 : Cond.selects "LogDiskModel" ⟨"LogDiskModel", "fill", "(II)V"⟩ ⟨"LogDiskModel", "fill", "(II)V"⟩ ∈ gTb := gTb_in 33 rfl rfl
theorem gs_34 : Cond.selects "LogDiskModel" ⟨"LogDiskModel", "firstOf", "(I)I"⟩ ⟨"LogDiskModel", "firstOf", "(I)I"⟩ ∈ gTb := gTb_in 34 rfl rfl
theorem gs_35 : Cond.selects "LogDiskModel" ⟨"LogDiskModel", "remove", "(I)V"⟩ ⟨"LogDiskModel", "remove", "(I)V"⟩ ∈ gTb := gTb_in 35 rfl rfl
theorem gs_36 : Cond.selects "LogDiskModel" ⟨"LogDiskModel", "placeIn", "(II)I"⟩ ⟨"LogDiskModel", "placeIn", "(II)I"⟩ ∈ gTb := gTb_in 36 rfl rfl
theorem gs_37 : Cond.selects "LogDiskModel" ⟨"LogDiskModel", "write", "(IIII)Z"⟩ ⟨"LogDiskModel", "write", "(IIII)Z"⟩ ∈ gTb := gTb_in 37 rfl rfl
theorem gs_38 : Cond.selects "LogDiskModel" ⟨"LogDiskModel", "settle", "(I)V"⟩ ⟨"LogDiskModel", "settle", "(I)V"⟩ ∈ gTb := gTb_in 38 rfl rfl
theorem gs_39 : Cond.selects "LogDiskModel" ⟨"LogDiskModel", "copy", "(II)V"⟩ ⟨"LogDiskModel", "copy", "(II)V"⟩ ∈ gTb := gTb_in 39 rfl rfl
theorem gs_40 : Cond.selects "LogDiskModel" ⟨"LogDiskModel", "rebase", "(II)V"⟩ ⟨"LogDiskModel", "rebase", "(II)V"⟩ ∈ gTb := gTb_in 40 rfl rfl
theorem gs_41 : Cond.selects "LogDiskModel" ⟨"LogDiskModel", "lastOf", "(I)I"⟩ ⟨"LogDiskModel", "lastOf", "(I)I"⟩ ∈ gTb := gTb_in 41 rfl rfl
theorem gs_42 : Cond.selects "LogDiskModel" ⟨"LogDiskModel", "crashFile", "(II)V"⟩ ⟨"LogDiskModel", "crashFile", "(II)V"⟩ ∈ gTb := gTb_in 42 rfl rfl
theorem gs_43 : Cond.selects "LogDiskModel" ⟨"LogDiskModel", "findSlots", "()V"⟩ ⟨"LogDiskModel", "findSlots", "()V"⟩ ∈ gTb := gTb_in 43 rfl rfl
theorem gs_44 : Cond.selects "LogDiskModel" ⟨"LogDiskModel", "whole", "(I)I"⟩ ⟨"LogDiskModel", "whole", "(I)I"⟩ ∈ gTb := gTb_in 44 rfl rfl
theorem gs_45 : Cond.selects "LogDiskModel" ⟨"LogDiskModel", "findSnapshot", "()V"⟩ ⟨"LogDiskModel", "findSnapshot", "()V"⟩ ∈ gTb := gTb_in 45 rfl rfl
theorem gs_46 : Cond.selects "LogDiskModel" ⟨"LogDiskModel", "firstSegment", "()I"⟩ ⟨"LogDiskModel", "firstSegment", "()I"⟩ ∈ gTb := gTb_in 46 rfl rfl
theorem gs_47 : Cond.selects "LogDiskModel" ⟨"LogDiskModel", "join", "(I)V"⟩ ⟨"LogDiskModel", "join", "(I)V"⟩ ∈ gTb := gTb_in 47 rfl rfl
theorem gs_48 : Cond.selects "LogDiskModel" ⟨"LogDiskModel", "nextSegment", "()I"⟩ ⟨"LogDiskModel", "nextSegment", "()I"⟩ ∈ gTb := gTb_in 48 rfl rfl
theorem gs_49 : Cond.selects "LogDiskModel" ⟨"LogDiskModel", "isJoined", "(I)Z"⟩ ⟨"LogDiskModel", "isJoined", "(I)Z"⟩ ∈ gTb := gTb_in 49 rfl rfl
theorem gs_50 : Cond.selects "LogDiskModel" ⟨"LogDiskModel", "fileOf", "(I)I"⟩ ⟨"LogDiskModel", "fileOf", "(I)I"⟩ ∈ gTb := gTb_in 50 rfl rfl
theorem gs_51 : Cond.selects "LogDiskModel" ⟨"LogDiskModel", "frameAt", "(II)I"⟩ ⟨"LogDiskModel", "frameAt", "(II)I"⟩ ∈ gTb := gTb_in 51 rfl rfl
theorem gs_52 : Cond.selects "LogDiskModel" ⟨"LogDiskModel", "sumOf", "(I)I"⟩ ⟨"LogDiskModel", "sumOf", "(I)I"⟩ ∈ gTb := gTb_in 52 rfl rfl
theorem gs_53 : Cond.selects "LogDiskModel" ⟨"LogDiskModel", "payloadAt", "(II)I"⟩ ⟨"LogDiskModel", "payloadAt", "(II)I"⟩ ∈ gTb := gTb_in 53 rfl rfl
theorem gw_0 : (Jvm.Cond.initialized "LogDiskLaw") ∈ gTb := gT_1 0 rfl rfl
theorem gw_1 : (Jvm.Cond.initialized "LogDisk") ∈ gTb := gT_1 1 rfl rfl
theorem gw_2 : (Jvm.Cond.initialized "LogDisk$Tape") ∈ gTb := gT_1 2 rfl rfl
theorem gw_3 : (Jvm.Cond.initialized "LogDisk$Frame") ∈ gTb := gT_1 3 rfl rfl
theorem gw_4 : (Jvm.Cond.initialized "LogDisk$Vote") ∈ gTb := gT_1 4 rfl rfl
theorem gw_5 : (Jvm.Cond.initialized "LogDisk$Snapshot") ∈ gTb := gT_1 5 rfl rfl
theorem gw_6 : (Jvm.Cond.initialized "LogDisk$Segments") ∈ gTb := gT_1 6 rfl rfl
theorem gw_7 : (Jvm.Cond.initialized "LogDisk$Entries") ∈ gTb := gT_1 7 rfl rfl
theorem gw_8 : (Jvm.Cond.initialized "java/lang/Math") ∈ gTb := gT_1 8 rfl rfl
theorem gw_9 : (Jvm.Cond.initialized "LogDisk$Pages") ∈ gTb := gT_1 9 rfl rfl
theorem gw_10 : (Jvm.Cond.initialized "LogDisk$DiskFile") ∈ gTb := gT_1 10 rfl rfl
theorem gw_11 : (Jvm.Cond.initialized "LogDisk$Content") ∈ gTb := gT_1 11 rfl rfl
theorem gw_12 : (Jvm.Cond.initialized "LogDiskModel") ∈ gTb := gT_1 12 rfl rfl
theorem gw_13 : (Jvm.Cond.initialized "java/lang/Throwable") ∈ gTb := gT_1 13 rfl rfl
theorem gw_14 : (Jvm.Cond.initialized "java/lang/Exception") ∈ gTb := gT_1 14 rfl rfl
theorem gw_15 : (Jvm.Cond.initialized "java/lang/RuntimeException") ∈ gTb := gT_1 15 rfl rfl
theorem gw_16 : (Jvm.Cond.initialized "java/lang/IllegalArgumentException") ∈ gTb := gT_1 16 rfl rfl
theorem gw_17 : (Jvm.Cond.initialized "java/lang/IllegalStateException") ∈ gTb := gT_1 17 rfl rfl
theorem gw_18 : (Jvm.Cond.initialized "java/lang/UnsupportedOperationException") ∈ gTb := gT_1 18 rfl rfl
theorem gw_19 : (Jvm.Cond.initialized "java/lang/System") ∈ gTb := gT_1 19 rfl rfl
theorem gw_20 : (Jvm.Cond.initialized "java/lang/IndexOutOfBoundsException") ∈ gTb := gT_1 20 rfl rfl
theorem gw_21 : (Jvm.Cond.initialized "java/util/NoSuchElementException") ∈ gTb := gT_1 21 rfl rfl
theorem gw_22 : (Jvm.Cond.classLink "LogDiskLaw" (8 : Nat) "LogDisk") ∈ gTb := gT_1 22 rfl rfl
theorem gw_23 : (Jvm.Cond.instantiable "LogDisk" (12 : Nat)) ∈ gTb := gT_1 23 rfl rfl
theorem gw_24 : (Jvm.Cond.methodLink "LogDiskLaw" (72 : Nat) ({ cls := "LogDisk", name := "<init>", desc := "(II)V" } : Jvm.MethodName)) ∈ gTb := gT_1 24 rfl rfl
theorem gw_25 : (Jvm.Cond.instanceMethod ({ cls := "LogDisk", name := "<init>", desc := "(II)V" } : Jvm.MethodName)) ∈ gTb := gT_1 25 rfl rfl
theorem gw_26 : (Jvm.Cond.code ({ cls := "LogDisk", name := "<init>", desc := "(II)V" } : Jvm.MethodName) prog_1_method_1_code (6 : Nat) (Option.none : Option Jvm.ClassFile.FieldType)) ∈ gTb := gT_1 26 rfl rfl
theorem gw_27 : (Jvm.Cond.methodLink "LogDisk" (3 : Nat) ({ cls := "java/lang/Object", name := "<init>", desc := "()V" } : Jvm.MethodName)) ∈ gTb := gT_1 27 rfl rfl
theorem gw_28 : (Jvm.Cond.instanceMethod ({ cls := "java/lang/Object", name := "<init>", desc := "()V" } : Jvm.MethodName)) ∈ gTb := gT_1 28 rfl rfl
theorem gw_29 : (Jvm.Cond.code ({ cls := "java/lang/Object", name := "<init>", desc := "()V" } : Jvm.MethodName) object_method_1_code (1 : Nat) (Option.none : Option Jvm.ClassFile.FieldType)) ∈ gTb := gT_1 29 rfl rfl
theorem gw_30 : (Jvm.Cond.classLink "LogDisk" (9 : Nat) "LogDisk$DiskFile") ∈ gTb := gT_1 30 rfl rfl
theorem gw_32 : (Jvm.Cond.classLink "LogDisk" (19 : Nat) "LogDisk$Tape") ∈ gTb := gT_1 32 rfl rfl
theorem gw_33 : (Jvm.Cond.instantiable "LogDisk$Tape" (2 : Nat)) ∈ gTb := gT_1 33 rfl rfl
theorem gw_35 : (Jvm.Cond.instanceMethod ({ cls := "LogDisk$Tape", name := "<init>", desc := "()V" } : Jvm.MethodName)) ∈ gTb := gT_1 35 rfl rfl
theorem gw_36 : (Jvm.Cond.code ({ cls := "LogDisk$Tape", name := "<init>", desc := "()V" } : Jvm.MethodName) prog_9_method_1_code (1 : Nat) (Option.none : Option Jvm.ClassFile.FieldType)) ∈ gTb := gT_1 36 rfl rfl
theorem gw_37 : (Jvm.Cond.methodLink "LogDisk$Tape" (3 : Nat) ({ cls := "java/lang/Object", name := "<init>", desc := "()V" } : Jvm.MethodName)) ∈ gTb := gT_1 37 rfl rfl
theorem gw_38 : (Jvm.Cond.fieldLink "LogDisk$Tape" (9 : Nat) "LogDisk$Tape" "bytes" "[B") ∈ gTb := gT_1 38 rfl rfl
theorem gw_39 : (Jvm.Cond.fieldLink "LogDisk" (104 : Nat) "LogDisk$Tape" "bytes" "[B") ∈ gTb := gT_1 39 rfl rfl
theorem gw_40 : (Jvm.Cond.fieldLink "LogDisk$Tape" (15 : Nat) "LogDisk$Tape" "size" "I") ∈ gTb := gT_1 40 rfl rfl
theorem gw_41 : (Jvm.Cond.fieldLink "LogDisk" (96 : Nat) "LogDisk$Tape" "size" "I") ∈ gTb := gT_1 41 rfl rfl
theorem gw_42 : (Jvm.Cond.laysFinal "LogDisk$Tape" "LogDisk$Tape" "bytes" "[B") ∈ gTb := gT_1 42 rfl rfl
theorem gw_44 : (Jvm.Cond.lays "LogDisk$Tape" "LogDisk$Tape" "size" "I") ∈ gTb := gT_1 44 rfl rfl
theorem gw_47 : (Jvm.Cond.arrayClass Jvm.ClassFile.FieldType.int) ∈ gTb := gT_1 47 rfl rfl
theorem gw_48 : (Jvm.Cond.arrayClass Jvm.ClassFile.FieldType.byte) ∈ gTb := gT_1 48 rfl rfl
theorem gw_49 : (Jvm.Cond.classLink "LogDisk" (26 : Nat) "LogDisk$Frame") ∈ gTb := gT_1 49 rfl rfl
theorem gw_50 : (Jvm.Cond.instantiable "LogDisk$Frame" (2 : Nat)) ∈ gTb := gT_1 50 rfl rfl
theorem gw_52 : (Jvm.Cond.instanceMethod ({ cls := "LogDisk$Frame", name := "<init>", desc := "()V" } : Jvm.MethodName)) ∈ gTb := gT_1 52 rfl rfl
theorem gw_53 : (Jvm.Cond.code ({ cls := "LogDisk$Frame", name := "<init>", desc := "()V" } : Jvm.MethodName) prog_5_method_1_code (1 : Nat) (Option.none : Option Jvm.ClassFile.FieldType)) ∈ gTb := gT_1 53 rfl rfl
theorem gw_54 : (Jvm.Cond.methodLink "LogDisk$Frame" (3 : Nat) ({ cls := "java/lang/Object", name := "<init>", desc := "()V" } : Jvm.MethodName)) ∈ gTb := gT_1 54 rfl rfl
theorem gw_55 : (Jvm.Cond.fieldLink "LogDisk$Frame" (9 : Nat) "LogDisk$Frame" "bytes" "[B") ∈ gTb := gT_1 55 rfl rfl
theorem gw_56 : (Jvm.Cond.fieldLink "LogDisk" (309 : Nat) "LogDisk$Frame" "bytes" "[B") ∈ gTb := gT_1 56 rfl rfl
theorem gw_57 : (Jvm.Cond.fieldLink "LogDisk$Frame" (15 : Nat) "LogDisk$Frame" "size" "I") ∈ gTb := gT_1 57 rfl rfl
theorem gw_58 : (Jvm.Cond.fieldLink "LogDisk" (310 : Nat) "LogDisk$Frame" "size" "I") ∈ gTb := gT_1 58 rfl rfl
theorem gw_59 : (Jvm.Cond.laysFinal "LogDisk$Frame" "LogDisk$Frame" "bytes" "[B") ∈ gTb := gT_1 59 rfl rfl
theorem gw_61 : (Jvm.Cond.lays "LogDisk$Frame" "LogDisk$Frame" "size" "I") ∈ gTb := gT_1 61 rfl rfl
theorem gw_64 : (Jvm.Cond.classLink "LogDisk" (33 : Nat) "LogDisk$Vote") ∈ gTb := gT_1 64 rfl rfl
theorem gw_65 : (Jvm.Cond.instantiable "LogDisk$Vote" (5 : Nat)) ∈ gTb := gT_1 65 rfl rfl
theorem gw_67 : (Jvm.Cond.instanceMethod ({ cls := "LogDisk$Vote", name := "<init>", desc := "()V" } : Jvm.MethodName)) ∈ gTb := gT_1 67 rfl rfl
theorem gw_68 : (Jvm.Cond.code ({ cls := "LogDisk$Vote", name := "<init>", desc := "()V" } : Jvm.MethodName) prog_10_method_1_code (1 : Nat) (Option.none : Option Jvm.ClassFile.FieldType)) ∈ gTb := gT_1 68 rfl rfl
theorem gw_69 : (Jvm.Cond.methodLink "LogDisk$Vote" (3 : Nat) ({ cls := "java/lang/Object", name := "<init>", desc := "()V" } : Jvm.MethodName)) ∈ gTb := gT_1 69 rfl rfl
theorem gw_70 : (Jvm.Cond.fieldLink "LogDisk$Vote" (22 : Nat) "LogDisk$Vote" "term" "I") ∈ gTb := gT_1 70 rfl rfl
theorem gw_71 : (Jvm.Cond.fieldLink "LogDisk" (108 : Nat) "LogDisk$Vote" "term" "I") ∈ gTb := gT_1 71 rfl rfl
theorem gw_72 : (Jvm.Cond.fieldLink "LogDisk$Vote" (9 : Nat) "LogDisk$Vote" "voted" "I") ∈ gTb := gT_1 72 rfl rfl
theorem gw_73 : (Jvm.Cond.fieldLink "LogDisk" (247 : Nat) "LogDisk$Vote" "voted" "I") ∈ gTb := gT_1 73 rfl rfl
theorem gw_74 : (Jvm.Cond.fieldLink "LogDisk$Vote" (18 : Nat) "LogDisk$Vote" "times" "J") ∈ gTb := gT_1 74 rfl rfl
theorem gw_75 : (Jvm.Cond.fieldLink "LogDisk" (129 : Nat) "LogDisk$Vote" "times" "J") ∈ gTb := gT_1 75 rfl rfl
theorem gw_76 : (Jvm.Cond.fieldLink "LogDisk$Vote" (15 : Nat) "LogDisk$Vote" "file" "I") ∈ gTb := gT_1 76 rfl rfl
theorem gw_77 : (Jvm.Cond.fieldLink "LogDisk" (308 : Nat) "LogDisk$Vote" "file" "I") ∈ gTb := gT_1 77 rfl rfl
theorem gw_78 : (Jvm.Cond.fieldLink "LogDisk$Vote" (29 : Nat) "LogDisk$Vote" "fresh" "Z") ∈ gTb := gT_1 78 rfl rfl
theorem gw_79 : (Jvm.Cond.fieldLink "LogDisk" (137 : Nat) "LogDisk$Vote" "fresh" "Z") ∈ gTb := gT_1 79 rfl rfl
theorem gw_80 : (Jvm.Cond.lays "LogDisk$Vote" "LogDisk$Vote" "term" "I") ∈ gTb := gT_1 80 rfl rfl
theorem gw_82 : (Jvm.Cond.lays "LogDisk$Vote" "LogDisk$Vote" "voted" "I") ∈ gTb := gT_1 82 rfl rfl
theorem gw_84 : (Jvm.Cond.lays "LogDisk$Vote" "LogDisk$Vote" "times" "J") ∈ gTb := gT_1 84 rfl rfl
theorem gw_86 : (Jvm.Cond.lays "LogDisk$Vote" "LogDisk$Vote" "file" "I") ∈ gTb := gT_1 86 rfl rfl
theorem gw_88 : (Jvm.Cond.lays "LogDisk$Vote" "LogDisk$Vote" "fresh" "Z") ∈ gTb := gT_1 88 rfl rfl
theorem gw_91 : (Jvm.Cond.classLink "LogDisk" (40 : Nat) "LogDisk$Snapshot") ∈ gTb := gT_1 91 rfl rfl
theorem gw_92 : (Jvm.Cond.instantiable "LogDisk$Snapshot" (4 : Nat)) ∈ gTb := gT_1 92 rfl rfl
theorem gw_94 : (Jvm.Cond.instanceMethod ({ cls := "LogDisk$Snapshot", name := "<init>", desc := "()V" } : Jvm.MethodName)) ∈ gTb := gT_1 94 rfl rfl
theorem gw_95 : (Jvm.Cond.code ({ cls := "LogDisk$Snapshot", name := "<init>", desc := "()V" } : Jvm.MethodName) prog_8_method_1_code (1 : Nat) (Option.none : Option Jvm.ClassFile.FieldType)) ∈ gTb := gT_1 95 rfl rfl
theorem gw_96 : (Jvm.Cond.methodLink "LogDisk$Snapshot" (3 : Nat) ({ cls := "java/lang/Object", name := "<init>", desc := "()V" } : Jvm.MethodName)) ∈ gTb := gT_1 96 rfl rfl
theorem gw_97 : (Jvm.Cond.fieldLink "LogDisk$Snapshot" (9 : Nat) "LogDisk$Snapshot" "file" "I") ∈ gTb := gT_1 97 rfl rfl
theorem gw_98 : (Jvm.Cond.fieldLink "LogDisk" (278 : Nat) "LogDisk$Snapshot" "file" "I") ∈ gTb := gT_1 98 rfl rfl
theorem gw_99 : (Jvm.Cond.fieldLink "LogDisk$Snapshot" (15 : Nat) "LogDisk$Snapshot" "base" "I") ∈ gTb := gT_1 99 rfl rfl
theorem gw_100 : (Jvm.Cond.fieldLink "LogDisk" (161 : Nat) "LogDisk$Snapshot" "base" "I") ∈ gTb := gT_1 100 rfl rfl
theorem gw_101 : (Jvm.Cond.fieldLink "LogDisk$Snapshot" (18 : Nat) "LogDisk$Snapshot" "term" "I") ∈ gTb := gT_1 101 rfl rfl
theorem gw_102 : (Jvm.Cond.fieldLink "LogDisk" (250 : Nat) "LogDisk$Snapshot" "term" "I") ∈ gTb := gT_1 102 rfl rfl
theorem gw_103 : (Jvm.Cond.fieldLink "LogDisk" (86 : Nat) "LogDisk$Snapshot" "code" "I") ∈ gTb := gT_1 103 rfl rfl
theorem gw_104 : (Jvm.Cond.fieldLink "LogDisk$Snapshot" (21 : Nat) "LogDisk$Snapshot" "code" "I") ∈ gTb := gT_1 104 rfl rfl
theorem gw_105 : (Jvm.Cond.lays "LogDisk$Snapshot" "LogDisk$Snapshot" "file" "I") ∈ gTb := gT_1 105 rfl rfl
theorem gw_107 : (Jvm.Cond.lays "LogDisk$Snapshot" "LogDisk$Snapshot" "base" "I") ∈ gTb := gT_1 107 rfl rfl
theorem gw_109 : (Jvm.Cond.lays "LogDisk$Snapshot" "LogDisk$Snapshot" "term" "I") ∈ gTb := gT_1 109 rfl rfl
theorem gw_111 : (Jvm.Cond.lays "LogDisk$Snapshot" "LogDisk$Snapshot" "code" "I") ∈ gTb := gT_1 111 rfl rfl
theorem gw_114 : (Jvm.Cond.classLink "LogDisk" (47 : Nat) "LogDisk$Segments") ∈ gTb := gT_1 114 rfl rfl
theorem gw_115 : (Jvm.Cond.instantiable "LogDisk$Segments" (3 : Nat)) ∈ gTb := gT_1 115 rfl rfl
theorem gw_117 : (Jvm.Cond.instanceMethod ({ cls := "LogDisk$Segments", name := "<init>", desc := "()V" } : Jvm.MethodName)) ∈ gTb := gT_1 117 rfl rfl
theorem gw_118 : (Jvm.Cond.code ({ cls := "LogDisk$Segments", name := "<init>", desc := "()V" } : Jvm.MethodName) prog_7_method_1_code (1 : Nat) (Option.none : Option Jvm.ClassFile.FieldType)) ∈ gTb := gT_1 118 rfl rfl
theorem gw_119 : (Jvm.Cond.methodLink "LogDisk$Segments" (3 : Nat) ({ cls := "java/lang/Object", name := "<init>", desc := "()V" } : Jvm.MethodName)) ∈ gTb := gT_1 119 rfl rfl
theorem gw_120 : (Jvm.Cond.fieldLink "LogDisk$Segments" (9 : Nat) "LogDisk$Segments" "file" "[I") ∈ gTb := gT_1 120 rfl rfl
theorem gw_121 : (Jvm.Cond.fieldLink "LogDisk" (200 : Nat) "LogDisk$Segments" "file" "[I") ∈ gTb := gT_1 121 rfl rfl
theorem gw_122 : (Jvm.Cond.fieldLink "LogDisk$Segments" (15 : Nat) "LogDisk$Segments" "first" "[I") ∈ gTb := gT_1 122 rfl rfl
theorem gw_123 : (Jvm.Cond.fieldLink "LogDisk" (197 : Nat) "LogDisk$Segments" "first" "[I") ∈ gTb := gT_1 123 rfl rfl
theorem gw_124 : (Jvm.Cond.fieldLink "LogDisk$Segments" (18 : Nat) "LogDisk$Segments" "count" "I") ∈ gTb := gT_1 124 rfl rfl
theorem gw_125 : (Jvm.Cond.fieldLink "LogDisk" (194 : Nat) "LogDisk$Segments" "count" "I") ∈ gTb := gT_1 125 rfl rfl
theorem gw_126 : (Jvm.Cond.laysFinal "LogDisk$Segments" "LogDisk$Segments" "file" "[I") ∈ gTb := gT_1 126 rfl rfl
theorem gw_128 : (Jvm.Cond.laysFinal "LogDisk$Segments" "LogDisk$Segments" "first" "[I") ∈ gTb := gT_1 128 rfl rfl
theorem gw_130 : (Jvm.Cond.lays "LogDisk$Segments" "LogDisk$Segments" "count" "I") ∈ gTb := gT_1 130 rfl rfl
theorem gw_133 : (Jvm.Cond.classLink "LogDisk" (54 : Nat) "LogDisk$Entries") ∈ gTb := gT_1 133 rfl rfl
theorem gw_134 : (Jvm.Cond.instantiable "LogDisk$Entries" (5 : Nat)) ∈ gTb := gT_1 134 rfl rfl
theorem gw_136 : (Jvm.Cond.instanceMethod ({ cls := "LogDisk$Entries", name := "<init>", desc := "()V" } : Jvm.MethodName)) ∈ gTb := gT_1 136 rfl rfl
theorem gw_137 : (Jvm.Cond.code ({ cls := "LogDisk$Entries", name := "<init>", desc := "()V" } : Jvm.MethodName) prog_4_method_1_code (1 : Nat) (Option.none : Option Jvm.ClassFile.FieldType)) ∈ gTb := gT_1 137 rfl rfl
theorem gw_138 : (Jvm.Cond.methodLink "LogDisk$Entries" (3 : Nat) ({ cls := "java/lang/Object", name := "<init>", desc := "()V" } : Jvm.MethodName)) ∈ gTb := gT_1 138 rfl rfl
theorem gw_139 : (Jvm.Cond.fieldLink "LogDisk$Entries" (11 : Nat) "LogDisk$Entries" "file" "[I") ∈ gTb := gT_1 139 rfl rfl
theorem gw_140 : (Jvm.Cond.fieldLink "LogDisk" (209 : Nat) "LogDisk$Entries" "file" "[I") ∈ gTb := gT_1 140 rfl rfl
theorem gw_141 : (Jvm.Cond.fieldLink "LogDisk$Entries" (15 : Nat) "LogDisk$Entries" "start" "[I") ∈ gTb := gT_1 141 rfl rfl
theorem gw_142 : (Jvm.Cond.fieldLink "LogDisk" (210 : Nat) "LogDisk$Entries" "start" "[I") ∈ gTb := gT_1 142 rfl rfl
theorem gw_143 : (Jvm.Cond.fieldLink "LogDisk$Entries" (18 : Nat) "LogDisk$Entries" "term" "[I") ∈ gTb := gT_1 143 rfl rfl
theorem gw_144 : (Jvm.Cond.fieldLink "LogDisk" (261 : Nat) "LogDisk$Entries" "term" "[I") ∈ gTb := gT_1 144 rfl rfl
theorem gw_145 : (Jvm.Cond.fieldLink "LogDisk$Entries" (21 : Nat) "LogDisk$Entries" "kind" "[I") ∈ gTb := gT_1 145 rfl rfl
theorem gw_146 : (Jvm.Cond.fieldLink "LogDisk" (263 : Nat) "LogDisk$Entries" "kind" "[I") ∈ gTb := gT_1 146 rfl rfl
theorem gw_147 : (Jvm.Cond.fieldLink "LogDisk$Entries" (24 : Nat) "LogDisk$Entries" "bytes" "[I") ∈ gTb := gT_1 147 rfl rfl
theorem gw_148 : (Jvm.Cond.fieldLink "LogDisk" (266 : Nat) "LogDisk$Entries" "bytes" "[I") ∈ gTb := gT_1 148 rfl rfl
theorem gw_149 : (Jvm.Cond.laysFinal "LogDisk$Entries" "LogDisk$Entries" "file" "[I") ∈ gTb := gT_1 149 rfl rfl
theorem gw_151 : (Jvm.Cond.laysFinal "LogDisk$Entries" "LogDisk$Entries" "start" "[I") ∈ gTb := gT_1 151 rfl rfl
theorem gw_153 : (Jvm.Cond.laysFinal "LogDisk$Entries" "LogDisk$Entries" "term" "[I") ∈ gTb := gT_1 153 rfl rfl
theorem gw_155 : (Jvm.Cond.laysFinal "LogDisk$Entries" "LogDisk$Entries" "kind" "[I") ∈ gTb := gT_1 155 rfl rfl
theorem gw_157 : (Jvm.Cond.laysFinal "LogDisk$Entries" "LogDisk$Entries" "bytes" "[I") ∈ gTb := gT_1 157 rfl rfl
theorem gw_160 : (Jvm.Cond.methodLink "LogDisk" (61 : Nat) ({ cls := "java/lang/Math", name := "min", desc := "(II)I" } : Jvm.MethodName)) ∈ gTb := gT_1 160 rfl rfl
theorem gw_161 : (Jvm.Cond.static ({ cls := "java/lang/Math", name := "min", desc := "(II)I" } : Jvm.MethodName)) ∈ gTb := gT_1 161 rfl rfl
theorem gw_162 : (Jvm.Cond.code ({ cls := "java/lang/Math", name := "min", desc := "(II)I" } : Jvm.MethodName) prog_17_method_69_code (2 : Nat) (Option.some Jvm.ClassFile.FieldType.int)) ∈ gTb := gT_1 162 rfl rfl
theorem gw_163 : (Jvm.Cond.methodLink "LogDisk" (67 : Nat) ({ cls := "java/lang/Math", name := "max", desc := "(II)I" } : Jvm.MethodName)) ∈ gTb := gT_1 163 rfl rfl
theorem gw_164 : (Jvm.Cond.static ({ cls := "java/lang/Math", name := "max", desc := "(II)I" } : Jvm.MethodName)) ∈ gTb := gT_1 164 rfl rfl
theorem gw_165 : (Jvm.Cond.code ({ cls := "java/lang/Math", name := "max", desc := "(II)I" } : Jvm.MethodName) prog_17_method_65_code (2 : Nat) (Option.some Jvm.ClassFile.FieldType.int)) ∈ gTb := gT_1 165 rfl rfl
theorem gw_166 : (Jvm.Cond.classLink "LogDisk" (70 : Nat) "LogDisk$Pages") ∈ gTb := gT_1 166 rfl rfl
theorem gw_167 : (Jvm.Cond.instantiable "LogDisk$Pages" (4 : Nat)) ∈ gTb := gT_1 167 rfl rfl
theorem gw_168 : (Jvm.Cond.methodLink "LogDisk" (72 : Nat) ({ cls := "LogDisk$Pages", name := "<init>", desc := "(I)V" } : Jvm.MethodName)) ∈ gTb := gT_1 168 rfl rfl
theorem gw_169 : (Jvm.Cond.instanceMethod ({ cls := "LogDisk$Pages", name := "<init>", desc := "(I)V" } : Jvm.MethodName)) ∈ gTb := gT_1 169 rfl rfl
theorem gw_170 : (Jvm.Cond.code ({ cls := "LogDisk$Pages", name := "<init>", desc := "(I)V" } : Jvm.MethodName) prog_6_method_1_code (3 : Nat) (Option.none : Option Jvm.ClassFile.FieldType)) ∈ gTb := gT_1 170 rfl rfl
theorem gw_171 : (Jvm.Cond.methodLink "LogDisk$Pages" (3 : Nat) ({ cls := "java/lang/Object", name := "<init>", desc := "()V" } : Jvm.MethodName)) ∈ gTb := gT_1 171 rfl rfl
theorem gw_172 : (Jvm.Cond.fieldLink "LogDisk$Pages" (9 : Nat) "LogDisk$Pages" "bytes" "[B") ∈ gTb := gT_1 172 rfl rfl
theorem gw_173 : (Jvm.Cond.fieldLink "LogDisk$DiskFile" (69 : Nat) "LogDisk$Pages" "bytes" "[B") ∈ gTb := gT_1 173 rfl rfl
theorem gw_174 : (Jvm.Cond.fieldLink "LogDisk$Pages" (15 : Nat) "LogDisk$Pages" "owners" "[I") ∈ gTb := gT_1 174 rfl rfl
theorem gw_175 : (Jvm.Cond.fieldLink "LogDisk$Pages" (19 : Nat) "LogDisk$Pages" "unused" "[I") ∈ gTb := gT_1 175 rfl rfl
theorem gw_176 : (Jvm.Cond.fieldLink "LogDisk$Pages" (22 : Nat) "LogDisk$Pages" "unusedCount" "I") ∈ gTb := gT_1 176 rfl rfl
theorem gw_177 : (Jvm.Cond.fieldLink "LogDisk$DiskFile" (47 : Nat) "LogDisk$Pages" "unusedCount" "I") ∈ gTb := gT_1 177 rfl rfl
theorem gw_178 : (Jvm.Cond.laysFinal "LogDisk$Pages" "LogDisk$Pages" "bytes" "[B") ∈ gTb := gT_1 178 rfl rfl
theorem gw_180 : (Jvm.Cond.laysFinal "LogDisk$Pages" "LogDisk$Pages" "owners" "[I") ∈ gTb := gT_1 180 rfl rfl
theorem gw_182 : (Jvm.Cond.laysFinal "LogDisk$Pages" "LogDisk$Pages" "unused" "[I") ∈ gTb := gT_1 182 rfl rfl
theorem gw_184 : (Jvm.Cond.lays "LogDisk$Pages" "LogDisk$Pages" "unusedCount" "I") ∈ gTb := gT_1 184 rfl rfl
theorem gw_187 : (Jvm.Cond.instantiable "LogDisk$DiskFile" (4 : Nat)) ∈ gTb := gT_1 187 rfl rfl
theorem gw_188 : (Jvm.Cond.methodLink "LogDisk" (75 : Nat) ({ cls := "LogDisk$DiskFile", name := "<init>", desc := "(LLogDisk$Pages;I)V" } : Jvm.MethodName)) ∈ gTb := gT_1 188 rfl rfl
theorem gw_189 : (Jvm.Cond.instanceMethod ({ cls := "LogDisk$DiskFile", name := "<init>", desc := "(LLogDisk$Pages;I)V" } : Jvm.MethodName)) ∈ gTb := gT_1 189 rfl rfl
theorem gw_190 : (Jvm.Cond.code ({ cls := "LogDisk$DiskFile", name := "<init>", desc := "(LLogDisk$Pages;I)V" } : Jvm.MethodName) prog_3_method_1_code (3 : Nat) (Option.none : Option Jvm.ClassFile.FieldType)) ∈ gTb := gT_1 190 rfl rfl
theorem gw_191 : (Jvm.Cond.methodLink "LogDisk$DiskFile" (3 : Nat) ({ cls := "java/lang/Object", name := "<init>", desc := "()V" } : Jvm.MethodName)) ∈ gTb := gT_1 191 rfl rfl
theorem gw_192 : (Jvm.Cond.classLink "LogDisk$DiskFile" (15 : Nat) "LogDisk$Content") ∈ gTb := gT_1 192 rfl rfl
theorem gw_193 : (Jvm.Cond.instantiable "LogDisk$Content" (3 : Nat)) ∈ gTb := gT_1 193 rfl rfl
theorem gw_194 : (Jvm.Cond.methodLink "LogDisk$DiskFile" (17 : Nat) ({ cls := "LogDisk$Content", name := "<init>", desc := "(I)V" } : Jvm.MethodName)) ∈ gTb := gT_1 194 rfl rfl
theorem gw_195 : (Jvm.Cond.instanceMethod ({ cls := "LogDisk$Content", name := "<init>", desc := "(I)V" } : Jvm.MethodName)) ∈ gTb := gT_1 195 rfl rfl
theorem gw_196 : (Jvm.Cond.code ({ cls := "LogDisk$Content", name := "<init>", desc := "(I)V" } : Jvm.MethodName) prog_2_method_1_code (2 : Nat) (Option.none : Option Jvm.ClassFile.FieldType)) ∈ gTb := gT_1 196 rfl rfl
theorem gw_197 : (Jvm.Cond.methodLink "LogDisk$Content" (1 : Nat) ({ cls := "java/lang/Object", name := "<init>", desc := "()V" } : Jvm.MethodName)) ∈ gTb := gT_1 197 rfl rfl
theorem gw_198 : (Jvm.Cond.fieldLink "LogDisk$Content" (7 : Nat) "LogDisk$Content" "row" "[I") ∈ gTb := gT_1 198 rfl rfl
theorem gw_199 : (Jvm.Cond.fieldLink "LogDisk$DiskFile" (35 : Nat) "LogDisk$Content" "row" "[I") ∈ gTb := gT_1 199 rfl rfl
theorem gw_200 : (Jvm.Cond.fieldLink "LogDisk$Content" (36 : Nat) "LogDisk$Content" "there" "Z") ∈ gTb := gT_1 200 rfl rfl
theorem gw_201 : (Jvm.Cond.fieldLink "LogDisk$DiskFile" (55 : Nat) "LogDisk$Content" "there" "Z") ∈ gTb := gT_1 201 rfl rfl
theorem gw_202 : (Jvm.Cond.fieldLink "LogDisk" (295 : Nat) "LogDisk$Content" "there" "Z") ∈ gTb := gT_1 202 rfl rfl
theorem gw_203 : (Jvm.Cond.fieldLink "LogDisk$Content" (13 : Nat) "LogDisk$Content" "size" "I") ∈ gTb := gT_1 203 rfl rfl
theorem gw_204 : (Jvm.Cond.fieldLink "LogDisk$DiskFile" (27 : Nat) "LogDisk$Content" "size" "I") ∈ gTb := gT_1 204 rfl rfl
theorem gw_205 : (Jvm.Cond.fieldLink "LogDisk" (286 : Nat) "LogDisk$Content" "size" "I") ∈ gTb := gT_1 205 rfl rfl
theorem gw_206 : (Jvm.Cond.laysFinal "LogDisk$Content" "LogDisk$Content" "row" "[I") ∈ gTb := gT_1 206 rfl rfl
theorem gw_208 : (Jvm.Cond.lays "LogDisk$Content" "LogDisk$Content" "there" "Z") ∈ gTb := gT_1 208 rfl rfl
theorem gw_210 : (Jvm.Cond.lays "LogDisk$Content" "LogDisk$Content" "size" "I") ∈ gTb := gT_1 210 rfl rfl
theorem gw_213 : (Jvm.Cond.fieldLink "LogDisk$DiskFile" (9 : Nat) "LogDisk$DiskFile" "pages" "LLogDisk$Pages;") ∈ gTb := gT_1 213 rfl rfl
theorem gw_214 : (Jvm.Cond.fieldLink "LogDisk$DiskFile" (20 : Nat) "LogDisk$DiskFile" "now" "LLogDisk$Content;") ∈ gTb := gT_1 214 rfl rfl
theorem gw_215 : (Jvm.Cond.fieldLink "LogDisk" (282 : Nat) "LogDisk$DiskFile" "now" "LLogDisk$Content;") ∈ gTb := gT_1 215 rfl rfl
theorem gw_216 : (Jvm.Cond.fieldLink "LogDisk$DiskFile" (24 : Nat) "LogDisk$DiskFile" "synced" "LLogDisk$Content;") ∈ gTb := gT_1 216 rfl rfl
theorem gw_217 : (Jvm.Cond.fieldLink "LogDisk" (289 : Nat) "LogDisk$DiskFile" "synced" "LLogDisk$Content;") ∈ gTb := gT_1 217 rfl rfl
theorem gw_218 : (Jvm.Cond.fieldLink "LogDisk$DiskFile" (86 : Nat) "LogDisk$DiskFile" "low" "I") ∈ gTb := gT_1 218 rfl rfl
theorem gw_219 : (Jvm.Cond.fieldLink "LogDisk" (292 : Nat) "LogDisk$DiskFile" "low" "I") ∈ gTb := gT_1 219 rfl rfl
theorem gw_220 : (Jvm.Cond.laysFinal "LogDisk$DiskFile" "LogDisk$DiskFile" "pages" "LLogDisk$Pages;") ∈ gTb := gT_1 220 rfl rfl
theorem gw_222 : (Jvm.Cond.laysFinal "LogDisk$DiskFile" "LogDisk$DiskFile" "now" "LLogDisk$Content;") ∈ gTb := gT_1 222 rfl rfl
theorem gw_224 : (Jvm.Cond.laysFinal "LogDisk$DiskFile" "LogDisk$DiskFile" "synced" "LLogDisk$Content;") ∈ gTb := gT_1 224 rfl rfl
theorem gw_226 : (Jvm.Cond.lays "LogDisk$DiskFile" "LogDisk$DiskFile" "low" "I") ∈ gTb := gT_1 226 rfl rfl
theorem gw_229 : (Jvm.Cond.fieldLink "LogDisk" (78 : Nat) "LogDisk" "pages" "LLogDisk$Pages;") ∈ gTb := gT_1 229 rfl rfl
theorem gw_230 : (Jvm.Cond.fieldLink "LogDisk" (11 : Nat) "LogDisk" "files" "[LLogDisk$DiskFile;") ∈ gTb := gT_1 230 rfl rfl
theorem gw_231 : (Jvm.Cond.fieldLink "LogDisk" (15 : Nat) "LogDisk" "keeps" "[I") ∈ gTb := gT_1 231 rfl rfl
theorem gw_232 : (Jvm.Cond.fieldLink "LogDisk" (22 : Nat) "LogDisk" "tape" "LLogDisk$Tape;") ∈ gTb := gT_1 232 rfl rfl
theorem gw_233 : (Jvm.Cond.fieldLink "LogDisk" (29 : Nat) "LogDisk" "frame" "LLogDisk$Frame;") ∈ gTb := gT_1 233 rfl rfl
theorem gw_234 : (Jvm.Cond.fieldLink "LogDisk" (36 : Nat) "LogDisk" "vote" "LLogDisk$Vote;") ∈ gTb := gT_1 234 rfl rfl
theorem gw_235 : (Jvm.Cond.fieldLink "LogDisk" (43 : Nat) "LogDisk" "snapshot" "LLogDisk$Snapshot;") ∈ gTb := gT_1 235 rfl rfl
theorem gw_236 : (Jvm.Cond.fieldLink "LogDisk" (50 : Nat) "LogDisk" "segments" "LLogDisk$Segments;") ∈ gTb := gT_1 236 rfl rfl
theorem gw_237 : (Jvm.Cond.fieldLink "LogDisk" (57 : Nat) "LogDisk" "entries" "LLogDisk$Entries;") ∈ gTb := gT_1 237 rfl rfl
theorem gw_238 : (Jvm.Cond.fieldLink "LogDisk" (82 : Nat) "LogDisk" "firstCode" "I") ∈ gTb := gT_1 238 rfl rfl
theorem gw_239 : (Jvm.Cond.fieldLink "LogDisk" (150 : Nat) "LogDisk" "last" "I") ∈ gTb := gT_1 239 rfl rfl
theorem gw_240 : (Jvm.Cond.fieldLink "LogDisk" (144 : Nat) "LogDisk" "dirty" "Z") ∈ gTb := gT_2 0 rfl rfl
theorem gw_241 : (Jvm.Cond.laysFinal "LogDisk" "LogDisk" "pages" "LLogDisk$Pages;") ∈ gTb := gT_2 1 rfl rfl
theorem gw_243 : (Jvm.Cond.laysFinal "LogDisk" "LogDisk" "files" "[LLogDisk$DiskFile;") ∈ gTb := gT_2 3 rfl rfl
theorem gw_245 : (Jvm.Cond.laysFinal "LogDisk" "LogDisk" "keeps" "[I") ∈ gTb := gT_2 5 rfl rfl
theorem gw_247 : (Jvm.Cond.laysFinal "LogDisk" "LogDisk" "tape" "LLogDisk$Tape;") ∈ gTb := gT_2 7 rfl rfl
theorem gw_249 : (Jvm.Cond.laysFinal "LogDisk" "LogDisk" "frame" "LLogDisk$Frame;") ∈ gTb := gT_2 9 rfl rfl
theorem gw_251 : (Jvm.Cond.laysFinal "LogDisk" "LogDisk" "vote" "LLogDisk$Vote;") ∈ gTb := gT_2 11 rfl rfl
theorem gw_253 : (Jvm.Cond.laysFinal "LogDisk" "LogDisk" "snapshot" "LLogDisk$Snapshot;") ∈ gTb := gT_2 13 rfl rfl
theorem gw_255 : (Jvm.Cond.laysFinal "LogDisk" "LogDisk" "segments" "LLogDisk$Segments;") ∈ gTb := gT_2 15 rfl rfl
theorem gw_257 : (Jvm.Cond.laysFinal "LogDisk" "LogDisk" "entries" "LLogDisk$Entries;") ∈ gTb := gT_2 17 rfl rfl
theorem gw_259 : (Jvm.Cond.laysFinal "LogDisk" "LogDisk" "firstCode" "I") ∈ gTb := gT_2 19 rfl rfl
theorem gw_261 : (Jvm.Cond.lays "LogDisk" "LogDisk" "last" "I") ∈ gTb := gT_2 21 rfl rfl
theorem gw_263 : (Jvm.Cond.lays "LogDisk" "LogDisk" "dirty" "Z") ∈ gTb := gT_2 23 rfl rfl
theorem gw_266 : (Jvm.Cond.methodLink "LogDiskLaw" (105 : Nat) ({ cls := "LogDisk", name := "sync", desc := "()Z" } : Jvm.MethodName)) ∈ gTb := gT_2 26 rfl rfl
theorem gw_267 : (Jvm.Cond.instanceMethod ({ cls := "LogDisk", name := "sync", desc := "()Z" } : Jvm.MethodName)) ∈ gTb := gT_2 27 rfl rfl
theorem gw_268 : (Jvm.Cond.selects "LogDisk" ({ cls := "LogDisk", name := "sync", desc := "()Z" } : Jvm.MethodName) ({ cls := "LogDisk", name := "sync", desc := "()Z" } : Jvm.MethodName)) ∈ gTb := gT_2 28 rfl rfl
theorem gw_269 : (Jvm.Cond.code ({ cls := "LogDisk", name := "sync", desc := "()Z" } : Jvm.MethodName) prog_1_method_8_code (2 : Nat) (Option.some Jvm.ClassFile.FieldType.boolean)) ∈ gTb := gT_2 29 rfl rfl
theorem gw_270 : (Jvm.Cond.methodLink "LogDisk" (224 : Nat) ({ cls := "LogDisk", name := "syncFiles", desc := "()V" } : Jvm.MethodName)) ∈ gTb := gT_2 30 rfl rfl
theorem gw_272 : (Jvm.Cond.instanceMethod ({ cls := "LogDisk", name := "syncFiles", desc := "()V" } : Jvm.MethodName)) ∈ gTb := gT_2 32 rfl rfl
theorem gw_273 : (Jvm.Cond.code ({ cls := "LogDisk", name := "syncFiles", desc := "()V" } : Jvm.MethodName) prog_1_method_29_code (2 : Nat) (Option.none : Option Jvm.ClassFile.FieldType)) ∈ gTb := gT_2 33 rfl rfl
theorem gw_274 : (Jvm.Cond.methodLink "LogDisk" (326 : Nat) ({ cls := "LogDisk$DiskFile", name := "settle", desc := "()V" } : Jvm.MethodName)) ∈ gTb := gT_2 34 rfl rfl
theorem gw_275 : (Jvm.Cond.instanceMethod ({ cls := "LogDisk$DiskFile", name := "settle", desc := "()V" } : Jvm.MethodName)) ∈ gTb := gT_2 35 rfl rfl
theorem gw_276 : (Jvm.Cond.selects "LogDisk$DiskFile" ({ cls := "LogDisk$DiskFile", name := "settle", desc := "()V" } : Jvm.MethodName) ({ cls := "LogDisk$DiskFile", name := "settle", desc := "()V" } : Jvm.MethodName)) ∈ gTb := gT_2 36 rfl rfl
theorem gw_277 : (Jvm.Cond.code ({ cls := "LogDisk$DiskFile", name := "settle", desc := "()V" } : Jvm.MethodName) prog_3_method_10_code (1 : Nat) (Option.none : Option Jvm.ClassFile.FieldType)) ∈ gTb := gT_2 37 rfl rfl
theorem gw_278 : (Jvm.Cond.methodLink "LogDisk$DiskFile" (89 : Nat) ({ cls := "LogDisk$Content", name := "become", desc := "(LLogDisk$Content;LLogDisk$Pages;)V" } : Jvm.MethodName)) ∈ gTb := gT_2 38 rfl rfl
theorem gw_279 : (Jvm.Cond.instanceMethod ({ cls := "LogDisk$Content", name := "become", desc := "(LLogDisk$Content;LLogDisk$Pages;)V" } : Jvm.MethodName)) ∈ gTb := gT_2 39 rfl rfl
theorem gw_280 : (Jvm.Cond.selects "LogDisk$Content" ({ cls := "LogDisk$Content", name := "become", desc := "(LLogDisk$Content;LLogDisk$Pages;)V" } : Jvm.MethodName) ({ cls := "LogDisk$Content", name := "become", desc := "(LLogDisk$Content;LLogDisk$Pages;)V" } : Jvm.MethodName)) ∈ gTb := gT_2 40 rfl rfl
theorem gw_281 : (Jvm.Cond.code ({ cls := "LogDisk$Content", name := "become", desc := "(LLogDisk$Content;LLogDisk$Pages;)V" } : Jvm.MethodName) prog_2_method_3_code (5 : Nat) (Option.none : Option Jvm.ClassFile.FieldType)) ∈ gTb := gT_2 41 rfl rfl
theorem gw_282 : (Jvm.Cond.methodLink "LogDisk$Content" (29 : Nat) ({ cls := "LogDisk$Content", name := "shorten", desc := "(ILLogDisk$Pages;)V" } : Jvm.MethodName)) ∈ gTb := gT_2 42 rfl rfl
theorem gw_283 : (Jvm.Cond.instanceMethod ({ cls := "LogDisk$Content", name := "shorten", desc := "(ILLogDisk$Pages;)V" } : Jvm.MethodName)) ∈ gTb := gT_2 43 rfl rfl
theorem gw_284 : (Jvm.Cond.selects "LogDisk$Content" ({ cls := "LogDisk$Content", name := "shorten", desc := "(ILLogDisk$Pages;)V" } : Jvm.MethodName) ({ cls := "LogDisk$Content", name := "shorten", desc := "(ILLogDisk$Pages;)V" } : Jvm.MethodName)) ∈ gTb := gT_2 44 rfl rfl
theorem gw_285 : (Jvm.Cond.code ({ cls := "LogDisk$Content", name := "shorten", desc := "(ILLogDisk$Pages;)V" } : Jvm.MethodName) prog_2_method_2_code (5 : Nat) (Option.none : Option Jvm.ClassFile.FieldType)) ∈ gTb := gT_2 45 rfl rfl
theorem gw_287 : (Jvm.Cond.static ({ cls := "LogDisk", name := "pagesFor", desc := "(I)I" } : Jvm.MethodName)) ∈ gTb := gT_2 47 rfl rfl
theorem gw_288 : (Jvm.Cond.code ({ cls := "LogDisk", name := "pagesFor", desc := "(I)I" } : Jvm.MethodName) prog_1_method_39_code (1 : Nat) (Option.some Jvm.ClassFile.FieldType.int)) ∈ gTb := gT_2 48 rfl rfl
theorem gw_289 : (Jvm.Cond.methodLink "LogDisk$Content" (23 : Nat) ({ cls := "LogDisk$Pages", name := "giveUp", desc := "(I)V" } : Jvm.MethodName)) ∈ gTb := gT_2 49 rfl rfl
theorem gw_290 : (Jvm.Cond.instanceMethod ({ cls := "LogDisk$Pages", name := "giveUp", desc := "(I)V" } : Jvm.MethodName)) ∈ gTb := gT_2 50 rfl rfl
theorem gw_291 : (Jvm.Cond.selects "LogDisk$Pages" ({ cls := "LogDisk$Pages", name := "giveUp", desc := "(I)V" } : Jvm.MethodName) ({ cls := "LogDisk$Pages", name := "giveUp", desc := "(I)V" } : Jvm.MethodName)) ∈ gTb := gT_2 51 rfl rfl
theorem gw_292 : (Jvm.Cond.code ({ cls := "LogDisk$Pages", name := "giveUp", desc := "(I)V" } : Jvm.MethodName) prog_6_method_5_code (2 : Nat) (Option.none : Option Jvm.ClassFile.FieldType)) ∈ gTb := gT_2 52 rfl rfl
theorem gw_293 : (Jvm.Cond.methodLink "LogDisk$Content" (33 : Nat) ({ cls := "LogDisk$Pages", name := "share", desc := "(I)V" } : Jvm.MethodName)) ∈ gTb := gT_2 53 rfl rfl
theorem gw_294 : (Jvm.Cond.instanceMethod ({ cls := "LogDisk$Pages", name := "share", desc := "(I)V" } : Jvm.MethodName)) ∈ gTb := gT_2 54 rfl rfl
theorem gw_295 : (Jvm.Cond.selects "LogDisk$Pages" ({ cls := "LogDisk$Pages", name := "share", desc := "(I)V" } : Jvm.MethodName) ({ cls := "LogDisk$Pages", name := "share", desc := "(I)V" } : Jvm.MethodName)) ∈ gTb := gT_2 55 rfl rfl
theorem gw_296 : (Jvm.Cond.code ({ cls := "LogDisk$Pages", name := "share", desc := "(I)V" } : Jvm.MethodName) prog_6_method_4_code (2 : Nat) (Option.none : Option Jvm.ClassFile.FieldType)) ∈ gTb := gT_2 56 rfl rfl
theorem gw_297 : (Jvm.Cond.methodLink "LogDiskLaw" (114 : Nat) ({ cls := "LogDisk", name := "crash", desc := "(J)I" } : Jvm.MethodName)) ∈ gTb := gT_2 57 rfl rfl
theorem gw_298 : (Jvm.Cond.instanceMethod ({ cls := "LogDisk", name := "crash", desc := "(J)I" } : Jvm.MethodName)) ∈ gTb := gT_2 58 rfl rfl
theorem gw_299 : (Jvm.Cond.selects "LogDisk" ({ cls := "LogDisk", name := "crash", desc := "(J)I" } : Jvm.MethodName) ({ cls := "LogDisk", name := "crash", desc := "(J)I" } : Jvm.MethodName)) ∈ gTb := gT_2 59 rfl rfl
theorem gw_300 : (Jvm.Cond.code ({ cls := "LogDisk", name := "crash", desc := "(J)I" } : Jvm.MethodName) prog_1_method_10_code (3 : Nat) (Option.some Jvm.ClassFile.FieldType.int)) ∈ gTb := gT_2 60 rfl rfl
theorem gw_301 : (Jvm.Cond.methodLink "LogDisk" (234 : Nat) ({ cls := "LogDisk", name := "crashFiles", desc := "(J)V" } : Jvm.MethodName)) ∈ gTb := gT_2 61 rfl rfl
theorem gw_303 : (Jvm.Cond.instanceMethod ({ cls := "LogDisk", name := "crashFiles", desc := "(J)V" } : Jvm.MethodName)) ∈ gTb := gT_2 63 rfl rfl
theorem gw_304 : (Jvm.Cond.code ({ cls := "LogDisk", name := "crashFiles", desc := "(J)V" } : Jvm.MethodName) prog_1_method_30_code (7 : Nat) (Option.none : Option Jvm.ClassFile.FieldType)) ∈ gTb := gT_2 64 rfl rfl
theorem gw_305 : (Jvm.Cond.constantLong "LogDisk" (338 : Nat) (6364136223846793005 : Int64)) ∈ gTb := gT_2 65 rfl rfl
theorem gw_306 : (Jvm.Cond.constantLong "LogDisk" (340 : Nat) (1442695040888963407 : Int64)) ∈ gTb := gT_2 66 rfl rfl
theorem gw_307 : (Jvm.Cond.methodLink "LogDisk" (342 : Nat) ({ cls := "LogDisk$DiskFile", name := "drawnKeep", desc := "(J)I" } : Jvm.MethodName)) ∈ gTb := gT_2 67 rfl rfl
theorem gw_308 : (Jvm.Cond.instanceMethod ({ cls := "LogDisk$DiskFile", name := "drawnKeep", desc := "(J)I" } : Jvm.MethodName)) ∈ gTb := gT_2 68 rfl rfl
theorem gw_309 : (Jvm.Cond.selects "LogDisk$DiskFile" ({ cls := "LogDisk$DiskFile", name := "drawnKeep", desc := "(J)I" } : Jvm.MethodName) ({ cls := "LogDisk$DiskFile", name := "drawnKeep", desc := "(J)I" } : Jvm.MethodName)) ∈ gTb := gT_2 69 rfl rfl
theorem gw_310 : (Jvm.Cond.code ({ cls := "LogDisk$DiskFile", name := "drawnKeep", desc := "(J)I" } : Jvm.MethodName) prog_3_method_11_code (5 : Nat) (Option.some Jvm.ClassFile.FieldType.int)) ∈ gTb := gT_2 70 rfl rfl
theorem gw_311 : (Jvm.Cond.constant "LogDisk$DiskFile" (93 : Nat) (1048575 : Int32)) ∈ gTb := gT_2 71 rfl rfl
theorem gw_312 : (Jvm.Cond.methodLink "LogDisk$DiskFile" (94 : Nat) ({ cls := "java/lang/Math", name := "max", desc := "(II)I" } : Jvm.MethodName)) ∈ gTb := gT_2 72 rfl rfl
theorem gw_313 : (Jvm.Cond.methodLink "LogDisk" (346 : Nat) ({ cls := "LogDisk$DiskFile", name := "fail", desc := "(I)V" } : Jvm.MethodName)) ∈ gTb := gT_2 73 rfl rfl
theorem gw_314 : (Jvm.Cond.instanceMethod ({ cls := "LogDisk$DiskFile", name := "fail", desc := "(I)V" } : Jvm.MethodName)) ∈ gTb := gT_2 74 rfl rfl
theorem gw_315 : (Jvm.Cond.selects "LogDisk$DiskFile" ({ cls := "LogDisk$DiskFile", name := "fail", desc := "(I)V" } : Jvm.MethodName) ({ cls := "LogDisk$DiskFile", name := "fail", desc := "(I)V" } : Jvm.MethodName)) ∈ gTb := gT_2 75 rfl rfl
theorem gw_316 : (Jvm.Cond.code ({ cls := "LogDisk$DiskFile", name := "fail", desc := "(I)V" } : Jvm.MethodName) prog_3_method_12_code (4 : Nat) (Option.none : Option Jvm.ClassFile.FieldType)) ∈ gTb := gT_2 76 rfl rfl
theorem gw_317 : (Jvm.Cond.methodLink "LogDisk$DiskFile" (97 : Nat) ({ cls := "LogDisk$DiskFile", name := "cutTo", desc := "(I)V" } : Jvm.MethodName)) ∈ gTb := gT_2 77 rfl rfl
theorem gw_318 : (Jvm.Cond.instanceMethod ({ cls := "LogDisk$DiskFile", name := "cutTo", desc := "(I)V" } : Jvm.MethodName)) ∈ gTb := gT_2 78 rfl rfl
theorem gw_319 : (Jvm.Cond.selects "LogDisk$DiskFile" ({ cls := "LogDisk$DiskFile", name := "cutTo", desc := "(I)V" } : Jvm.MethodName) ({ cls := "LogDisk$DiskFile", name := "cutTo", desc := "(I)V" } : Jvm.MethodName)) ∈ gTb := gT_2 79 rfl rfl
theorem gw_320 : (Jvm.Cond.code ({ cls := "LogDisk$DiskFile", name := "cutTo", desc := "(I)V" } : Jvm.MethodName) prog_3_method_8_code (2 : Nat) (Option.none : Option Jvm.ClassFile.FieldType)) ∈ gTb := gT_2 80 rfl rfl
theorem gw_321 : (Jvm.Cond.methodLink "LogDisk$DiskFile" (82 : Nat) ({ cls := "LogDisk$Content", name := "shorten", desc := "(ILLogDisk$Pages;)V" } : Jvm.MethodName)) ∈ gTb := gT_2 81 rfl rfl
theorem gw_322 : (Jvm.Cond.methodLink "LogDisk$DiskFile" (63 : Nat) ({ cls := "java/lang/Math", name := "min", desc := "(II)I" } : Jvm.MethodName)) ∈ gTb := gT_2 82 rfl rfl
theorem gw_323 : (Jvm.Cond.methodLink "LogDisk$DiskFile" (100 : Nat) ({ cls := "LogDisk$DiskFile", name := "settle", desc := "()V" } : Jvm.MethodName)) ∈ gTb := gT_2 83 rfl rfl
theorem gw_324 : (Jvm.Cond.methodLink "LogDisk" (238 : Nat) ({ cls := "LogDisk", name := "findVote", desc := "()V" } : Jvm.MethodName)) ∈ gTb := gT_2 84 rfl rfl
theorem gw_326 : (Jvm.Cond.instanceMethod ({ cls := "LogDisk", name := "findVote", desc := "()V" } : Jvm.MethodName)) ∈ gTb := gT_2 86 rfl rfl
theorem gw_327 : (Jvm.Cond.code ({ cls := "LogDisk", name := "findVote", desc := "()V" } : Jvm.MethodName) prog_1_method_31_code (5 : Nat) (Option.none : Option Jvm.ClassFile.FieldType)) ∈ gTb := gT_2 87 rfl rfl
theorem gw_328 : (Jvm.Cond.methodLink "LogDisk" (349 : Nat) ({ cls := "LogDisk$Vote", name := "forget", desc := "()V" } : Jvm.MethodName)) ∈ gTb := gT_2 88 rfl rfl
theorem gw_329 : (Jvm.Cond.instanceMethod ({ cls := "LogDisk$Vote", name := "forget", desc := "()V" } : Jvm.MethodName)) ∈ gTb := gT_2 89 rfl rfl
theorem gw_330 : (Jvm.Cond.selects "LogDisk$Vote" ({ cls := "LogDisk$Vote", name := "forget", desc := "()V" } : Jvm.MethodName) ({ cls := "LogDisk$Vote", name := "forget", desc := "()V" } : Jvm.MethodName)) ∈ gTb := gT_2 90 rfl rfl
theorem gw_331 : (Jvm.Cond.code ({ cls := "LogDisk$Vote", name := "forget", desc := "()V" } : Jvm.MethodName) prog_10_method_3_code (1 : Nat) (Option.none : Option Jvm.ClassFile.FieldType)) ∈ gTb := gT_2 91 rfl rfl
theorem gw_332 : (Jvm.Cond.methodLink "LogDisk$Vote" (25 : Nat) ({ cls := "LogDisk$Vote", name := "set", desc := "(IJII)V" } : Jvm.MethodName)) ∈ gTb := gT_2 92 rfl rfl
theorem gw_333 : (Jvm.Cond.instanceMethod ({ cls := "LogDisk$Vote", name := "set", desc := "(IJII)V" } : Jvm.MethodName)) ∈ gTb := gT_2 93 rfl rfl
theorem gw_334 : (Jvm.Cond.selects "LogDisk$Vote" ({ cls := "LogDisk$Vote", name := "set", desc := "(IJII)V" } : Jvm.MethodName) ({ cls := "LogDisk$Vote", name := "set", desc := "(IJII)V" } : Jvm.MethodName)) ∈ gTb := gT_2 94 rfl rfl
theorem gw_335 : (Jvm.Cond.code ({ cls := "LogDisk$Vote", name := "set", desc := "(IJII)V" } : Jvm.MethodName) prog_10_method_2_code (6 : Nat) (Option.none : Option Jvm.ClassFile.FieldType)) ∈ gTb := gT_2 95 rfl rfl
theorem gw_336 : (Jvm.Cond.methodLink "LogDisk" (352 : Nat) ({ cls := "LogDisk$DiskFile", name := "wholeFrame", desc := "(I)I" } : Jvm.MethodName)) ∈ gTb := gT_2 96 rfl rfl
theorem gw_337 : (Jvm.Cond.instanceMethod ({ cls := "LogDisk$DiskFile", name := "wholeFrame", desc := "(I)I" } : Jvm.MethodName)) ∈ gTb := gT_2 97 rfl rfl
theorem gw_338 : (Jvm.Cond.selects "LogDisk$DiskFile" ({ cls := "LogDisk$DiskFile", name := "wholeFrame", desc := "(I)I" } : Jvm.MethodName) ({ cls := "LogDisk$DiskFile", name := "wholeFrame", desc := "(I)I" } : Jvm.MethodName)) ∈ gTb := gT_2 98 rfl rfl
theorem gw_339 : (Jvm.Cond.code ({ cls := "LogDisk$DiskFile", name := "wholeFrame", desc := "(I)I" } : Jvm.MethodName) prog_3_method_15_code (6 : Nat) (Option.some Jvm.ClassFile.FieldType.int)) ∈ gTb := gT_2 99 rfl rfl
theorem gw_340 : (Jvm.Cond.methodLink "LogDisk$DiskFile" (106 : Nat) ({ cls := "LogDisk$DiskFile", name := "number", desc := "(II)J" } : Jvm.MethodName)) ∈ gTb := gT_2 100 rfl rfl
theorem gw_341 : (Jvm.Cond.instanceMethod ({ cls := "LogDisk$DiskFile", name := "number", desc := "(II)J" } : Jvm.MethodName)) ∈ gTb := gT_2 101 rfl rfl
theorem gw_342 : (Jvm.Cond.selects "LogDisk$DiskFile" ({ cls := "LogDisk$DiskFile", name := "number", desc := "(II)J" } : Jvm.MethodName) ({ cls := "LogDisk$DiskFile", name := "number", desc := "(II)J" } : Jvm.MethodName)) ∈ gTb := gT_2 102 rfl rfl
theorem gw_343 : (Jvm.Cond.code ({ cls := "LogDisk$DiskFile", name := "number", desc := "(II)J" } : Jvm.MethodName) prog_3_method_14_code (6 : Nat) (Option.some Jvm.ClassFile.FieldType.long)) ∈ gTb := gT_2 103 rfl rfl
theorem gw_344 : (Jvm.Cond.methodLink "LogDisk$DiskFile" (103 : Nat) ({ cls := "LogDisk$DiskFile", name := "read", desc := "(I)I" } : Jvm.MethodName)) ∈ gTb := gT_2 104 rfl rfl
theorem gw_345 : (Jvm.Cond.instanceMethod ({ cls := "LogDisk$DiskFile", name := "read", desc := "(I)I" } : Jvm.MethodName)) ∈ gTb := gT_2 105 rfl rfl
theorem gw_346 : (Jvm.Cond.selects "LogDisk$DiskFile" ({ cls := "LogDisk$DiskFile", name := "read", desc := "(I)I" } : Jvm.MethodName) ({ cls := "LogDisk$DiskFile", name := "read", desc := "(I)I" } : Jvm.MethodName)) ∈ gTb := gT_2 106 rfl rfl
theorem gw_347 : (Jvm.Cond.code ({ cls := "LogDisk$DiskFile", name := "read", desc := "(I)I" } : Jvm.MethodName) prog_3_method_13_code (2 : Nat) (Option.some Jvm.ClassFile.FieldType.int)) ∈ gTb := gT_2 107 rfl rfl
theorem gw_349 : (Jvm.Cond.static ({ cls := "LogDisk", name := "sumStep", desc := "(II)I" } : Jvm.MethodName)) ∈ gTb := gT_2 109 rfl rfl
theorem gw_350 : (Jvm.Cond.code ({ cls := "LogDisk", name := "sumStep", desc := "(II)I" } : Jvm.MethodName) prog_1_method_40_code (3 : Nat) (Option.some Jvm.ClassFile.FieldType.int)) ∈ gTb := gT_2 110 rfl rfl
theorem gw_351 : (Jvm.Cond.fieldLink "LogDisk" (384 : Nat) "LogDisk" "SUM_OF_HALF" "[I") ∈ gTb := gT_2 111 rfl rfl
theorem gw_353 : (Jvm.Cond.methodLink "LogDisk" (355 : Nat) ({ cls := "LogDisk$DiskFile", name := "number", desc := "(II)J" } : Jvm.MethodName)) ∈ gTb := gT_2 113 rfl rfl
theorem gw_354 : (Jvm.Cond.methodLink "LogDisk" (133 : Nat) ({ cls := "LogDisk$Vote", name := "set", desc := "(IJII)V" } : Jvm.MethodName)) ∈ gTb := gT_2 114 rfl rfl
theorem gw_355 : (Jvm.Cond.methodLink "LogDisk" (241 : Nat) ({ cls := "LogDisk", name := "findSnapshot", desc := "()V" } : Jvm.MethodName)) ∈ gTb := gT_2 115 rfl rfl
theorem gw_357 : (Jvm.Cond.instanceMethod ({ cls := "LogDisk", name := "findSnapshot", desc := "()V" } : Jvm.MethodName)) ∈ gTb := gT_2 117 rfl rfl
theorem gw_358 : (Jvm.Cond.code ({ cls := "LogDisk", name := "findSnapshot", desc := "()V" } : Jvm.MethodName) prog_1_method_32_code (5 : Nat) (Option.none : Option Jvm.ClassFile.FieldType)) ∈ gTb := gT_2 118 rfl rfl
theorem gw_359 : (Jvm.Cond.methodLink "LogDisk" (324 : Nat) ({ cls := "LogDisk$Snapshot", name := "set", desc := "(IIII)V" } : Jvm.MethodName)) ∈ gTb := gT_2 119 rfl rfl
theorem gw_360 : (Jvm.Cond.instanceMethod ({ cls := "LogDisk$Snapshot", name := "set", desc := "(IIII)V" } : Jvm.MethodName)) ∈ gTb := gT_2 120 rfl rfl
theorem gw_361 : (Jvm.Cond.selects "LogDisk$Snapshot" ({ cls := "LogDisk$Snapshot", name := "set", desc := "(IIII)V" } : Jvm.MethodName) ({ cls := "LogDisk$Snapshot", name := "set", desc := "(IIII)V" } : Jvm.MethodName)) ∈ gTb := gT_2 121 rfl rfl
theorem gw_362 : (Jvm.Cond.code ({ cls := "LogDisk$Snapshot", name := "set", desc := "(IIII)V" } : Jvm.MethodName) prog_8_method_2_code (5 : Nat) (Option.none : Option Jvm.ClassFile.FieldType)) ∈ gTb := gT_2 122 rfl rfl
theorem gw_363 : (Jvm.Cond.methodLink "LogDisk" (244 : Nat) ({ cls := "LogDisk", name := "findLog", desc := "()V" } : Jvm.MethodName)) ∈ gTb := gT_2 123 rfl rfl
theorem gw_365 : (Jvm.Cond.instanceMethod ({ cls := "LogDisk", name := "findLog", desc := "()V" } : Jvm.MethodName)) ∈ gTb := gT_2 125 rfl rfl
theorem gw_366 : (Jvm.Cond.code ({ cls := "LogDisk", name := "findLog", desc := "()V" } : Jvm.MethodName) prog_1_method_33_code (4 : Nat) (Option.none : Option Jvm.ClassFile.FieldType)) ∈ gTb := gT_2 126 rfl rfl
theorem gw_367 : (Jvm.Cond.methodLink "LogDisk" (359 : Nat) ({ cls := "LogDisk", name := "firstSegment", desc := "()I" } : Jvm.MethodName)) ∈ gTb := gT_2 127 rfl rfl
theorem gw_369 : (Jvm.Cond.instanceMethod ({ cls := "LogDisk", name := "firstSegment", desc := "()I" } : Jvm.MethodName)) ∈ gTb := gT_2 129 rfl rfl
theorem gw_370 : (Jvm.Cond.code ({ cls := "LogDisk", name := "firstSegment", desc := "()I" } : Jvm.MethodName) prog_1_method_35_code (5 : Nat) (Option.some Jvm.ClassFile.FieldType.int)) ∈ gTb := gT_2 130 rfl rfl
theorem gw_371 : (Jvm.Cond.methodLink "LogDisk" (375 : Nat) ({ cls := "LogDisk$DiskFile", name := "segmentFirst", desc := "()I" } : Jvm.MethodName)) ∈ gTb := gT_2 131 rfl rfl
theorem gw_372 : (Jvm.Cond.instanceMethod ({ cls := "LogDisk$DiskFile", name := "segmentFirst", desc := "()I" } : Jvm.MethodName)) ∈ gTb := gT_2 132 rfl rfl
theorem gw_373 : (Jvm.Cond.selects "LogDisk$DiskFile" ({ cls := "LogDisk$DiskFile", name := "segmentFirst", desc := "()I" } : Jvm.MethodName) ({ cls := "LogDisk$DiskFile", name := "segmentFirst", desc := "()I" } : Jvm.MethodName)) ∈ gTb := gT_2 133 rfl rfl
theorem gw_374 : (Jvm.Cond.code ({ cls := "LogDisk$DiskFile", name := "segmentFirst", desc := "()I" } : Jvm.MethodName) prog_3_method_16_code (1 : Nat) (Option.some Jvm.ClassFile.FieldType.int)) ∈ gTb := gT_2 134 rfl rfl
theorem gw_375 : (Jvm.Cond.methodLink "LogDisk$DiskFile" (113 : Nat) ({ cls := "LogDisk$DiskFile", name := "wholeFrame", desc := "(I)I" } : Jvm.MethodName)) ∈ gTb := gT_2 135 rfl rfl
theorem gw_376 : (Jvm.Cond.methodLink "LogDisk" (362 : Nat) ({ cls := "LogDisk", name := "readSegment", desc := "(I)I" } : Jvm.MethodName)) ∈ gTb := gT_2 136 rfl rfl
theorem gw_378 : (Jvm.Cond.instanceMethod ({ cls := "LogDisk", name := "readSegment", desc := "(I)I" } : Jvm.MethodName)) ∈ gTb := gT_2 138 rfl rfl
theorem gw_379 : (Jvm.Cond.code ({ cls := "LogDisk", name := "readSegment", desc := "(I)I" } : Jvm.MethodName) prog_1_method_37_code (8 : Nat) (Option.some Jvm.ClassFile.FieldType.int)) ∈ gTb := gT_2 139 rfl rfl
theorem gw_380 : (Jvm.Cond.methodLink "LogDisk" (275 : Nat) ({ cls := "LogDisk$DiskFile", name := "read", desc := "(I)I" } : Jvm.MethodName)) ∈ gTb := gT_2 140 rfl rfl
theorem gw_381 : (Jvm.Cond.methodLink "LogDisk" (318 : Nat) ({ cls := "LogDisk$Entries", name := "set", desc := "(IIIIII)V" } : Jvm.MethodName)) ∈ gTb := gT_2 141 rfl rfl
theorem gw_382 : (Jvm.Cond.instanceMethod ({ cls := "LogDisk$Entries", name := "set", desc := "(IIIIII)V" } : Jvm.MethodName)) ∈ gTb := gT_2 142 rfl rfl
theorem gw_383 : (Jvm.Cond.selects "LogDisk$Entries" ({ cls := "LogDisk$Entries", name := "set", desc := "(IIIIII)V" } : Jvm.MethodName) ({ cls := "LogDisk$Entries", name := "set", desc := "(IIIIII)V" } : Jvm.MethodName)) ∈ gTb := gT_2 143 rfl rfl
theorem gw_384 : (Jvm.Cond.code ({ cls := "LogDisk$Entries", name := "set", desc := "(IIIIII)V" } : Jvm.MethodName) prog_4_method_3_code (8 : Nat) (Option.none : Option Jvm.ClassFile.FieldType)) ∈ gTb := gT_2 144 rfl rfl
theorem gw_385 : (Jvm.Cond.methodLink "LogDisk$Entries" (33 : Nat) ({ cls := "LogDisk$Entries", name := "slot", desc := "(I)I" } : Jvm.MethodName)) ∈ gTb := gT_2 145 rfl rfl
theorem gw_386 : (Jvm.Cond.instanceMethod ({ cls := "LogDisk$Entries", name := "slot", desc := "(I)I" } : Jvm.MethodName)) ∈ gTb := gT_2 146 rfl rfl
theorem gw_387 : (Jvm.Cond.selects "LogDisk$Entries" ({ cls := "LogDisk$Entries", name := "slot", desc := "(I)I" } : Jvm.MethodName) ({ cls := "LogDisk$Entries", name := "slot", desc := "(I)I" } : Jvm.MethodName)) ∈ gTb := gT_2 147 rfl rfl
theorem gw_388 : (Jvm.Cond.code ({ cls := "LogDisk$Entries", name := "slot", desc := "(I)I" } : Jvm.MethodName) prog_4_method_2_code (2 : Nat) (Option.some Jvm.ClassFile.FieldType.int)) ∈ gTb := gT_2 148 rfl rfl
theorem gw_389 : (Jvm.Cond.methodLink "LogDisk$Entries" (27 : Nat) ({ cls := "java/lang/Math", name := "floorMod", desc := "(II)I" } : Jvm.MethodName)) ∈ gTb := gT_2 149 rfl rfl
theorem gw_390 : (Jvm.Cond.static ({ cls := "java/lang/Math", name := "floorMod", desc := "(II)I" } : Jvm.MethodName)) ∈ gTb := gT_2 150 rfl rfl
theorem gw_391 : (Jvm.Cond.code ({ cls := "java/lang/Math", name := "floorMod", desc := "(II)I" } : Jvm.MethodName) prog_17_method_50_code (3 : Nat) (Option.some Jvm.ClassFile.FieldType.int)) ∈ gTb := gT_2 151 rfl rfl
theorem gw_392 : (Jvm.Cond.methodLink "LogDisk" (213 : Nat) ({ cls := "LogDisk$DiskFile", name := "cutTo", desc := "(I)V" } : Jvm.MethodName)) ∈ gTb := gT_2 152 rfl rfl
theorem gw_393 : (Jvm.Cond.methodLink "LogDisk" (365 : Nat) ({ cls := "LogDisk", name := "holdsBase", desc := "(II)Z" } : Jvm.MethodName)) ∈ gTb := gT_2 153 rfl rfl
theorem gw_395 : (Jvm.Cond.instanceMethod ({ cls := "LogDisk", name := "holdsBase", desc := "(II)Z" } : Jvm.MethodName)) ∈ gTb := gT_2 155 rfl rfl
theorem gw_396 : (Jvm.Cond.code ({ cls := "LogDisk", name := "holdsBase", desc := "(II)Z" } : Jvm.MethodName) prog_1_method_38_code (3 : Nat) (Option.some Jvm.ClassFile.FieldType.boolean)) ∈ gTb := gT_2 156 rfl rfl
theorem gw_397 : (Jvm.Cond.methodLink "LogDisk" (381 : Nat) ({ cls := "LogDisk$DiskFile", name := "termBefore", desc := "()I" } : Jvm.MethodName)) ∈ gTb := gT_2 157 rfl rfl
theorem gw_398 : (Jvm.Cond.instanceMethod ({ cls := "LogDisk$DiskFile", name := "termBefore", desc := "()I" } : Jvm.MethodName)) ∈ gTb := gT_2 158 rfl rfl
theorem gw_399 : (Jvm.Cond.selects "LogDisk$DiskFile" ({ cls := "LogDisk$DiskFile", name := "termBefore", desc := "()I" } : Jvm.MethodName) ({ cls := "LogDisk$DiskFile", name := "termBefore", desc := "()I" } : Jvm.MethodName)) ∈ gTb := gT_2 159 rfl rfl
theorem gw_400 : (Jvm.Cond.code ({ cls := "LogDisk$DiskFile", name := "termBefore", desc := "()I" } : Jvm.MethodName) prog_3_method_17_code (1 : Nat) (Option.some Jvm.ClassFile.FieldType.int)) ∈ gTb := gT_2 160 rfl rfl
theorem gw_401 : (Jvm.Cond.methodLink "LogDisk" (206 : Nat) ({ cls := "LogDisk$Entries", name := "slot", desc := "(I)I" } : Jvm.MethodName)) ∈ gTb := gT_2 161 rfl rfl
theorem gw_402 : (Jvm.Cond.methodLink "LogDisk" (369 : Nat) ({ cls := "LogDisk", name := "followSegments", desc := "(II)V" } : Jvm.MethodName)) ∈ gTb := gT_2 162 rfl rfl
theorem gw_404 : (Jvm.Cond.instanceMethod ({ cls := "LogDisk", name := "followSegments", desc := "(II)V" } : Jvm.MethodName)) ∈ gTb := gT_2 164 rfl rfl
theorem gw_405 : (Jvm.Cond.code ({ cls := "LogDisk", name := "followSegments", desc := "(II)V" } : Jvm.MethodName) prog_1_method_34_code (7 : Nat) (Option.none : Option Jvm.ClassFile.FieldType)) ∈ gTb := gT_2 165 rfl rfl
theorem gw_406 : (Jvm.Cond.methodLink "LogDisk" (315 : Nat) ({ cls := "LogDisk$Segments", name := "add", desc := "(II)V" } : Jvm.MethodName)) ∈ gTb := gT_2 166 rfl rfl
theorem gw_407 : (Jvm.Cond.instanceMethod ({ cls := "LogDisk$Segments", name := "add", desc := "(II)V" } : Jvm.MethodName)) ∈ gTb := gT_2 167 rfl rfl
theorem gw_408 : (Jvm.Cond.selects "LogDisk$Segments" ({ cls := "LogDisk$Segments", name := "add", desc := "(II)V" } : Jvm.MethodName) ({ cls := "LogDisk$Segments", name := "add", desc := "(II)V" } : Jvm.MethodName)) ∈ gTb := gT_2 168 rfl rfl
theorem gw_409 : (Jvm.Cond.code ({ cls := "LogDisk$Segments", name := "add", desc := "(II)V" } : Jvm.MethodName) prog_7_method_2_code (3 : Nat) (Option.none : Option Jvm.ClassFile.FieldType)) ∈ gTb := gT_2 169 rfl rfl
theorem gw_410 : (Jvm.Cond.methodLink "LogDisk" (378 : Nat) ({ cls := "LogDisk", name := "segmentBehind", desc := "(II)I" } : Jvm.MethodName)) ∈ gTb := gT_2 170 rfl rfl
theorem gw_412 : (Jvm.Cond.instanceMethod ({ cls := "LogDisk", name := "segmentBehind", desc := "(II)I" } : Jvm.MethodName)) ∈ gTb := gT_2 172 rfl rfl
theorem gw_413 : (Jvm.Cond.code ({ cls := "LogDisk", name := "segmentBehind", desc := "(II)I" } : Jvm.MethodName) prog_1_method_36_code (4 : Nat) (Option.some Jvm.ClassFile.FieldType.int)) ∈ gTb := gT_2 173 rfl rfl
theorem gw_414 : (Jvm.Cond.methodLink "LogDisk" (372 : Nat) ({ cls := "LogDisk$Segments", name := "has", desc := "(I)Z" } : Jvm.MethodName)) ∈ gTb := gT_2 174 rfl rfl
theorem gw_415 : (Jvm.Cond.instanceMethod ({ cls := "LogDisk$Segments", name := "has", desc := "(I)Z" } : Jvm.MethodName)) ∈ gTb := gT_2 175 rfl rfl
theorem gw_416 : (Jvm.Cond.selects "LogDisk$Segments" ({ cls := "LogDisk$Segments", name := "has", desc := "(I)Z" } : Jvm.MethodName) ({ cls := "LogDisk$Segments", name := "has", desc := "(I)Z" } : Jvm.MethodName)) ∈ gTb := gT_2 176 rfl rfl
theorem gw_417 : (Jvm.Cond.code ({ cls := "LogDisk$Segments", name := "has", desc := "(I)Z" } : Jvm.MethodName) prog_7_method_4_code (3 : Nat) (Option.some Jvm.ClassFile.FieldType.boolean)) ∈ gTb := gT_2 177 rfl rfl
theorem gw_418 : (Jvm.Cond.methodLink "LogDisk" (203 : Nat) ({ cls := "LogDisk$DiskFile", name := "remove", desc := "()V" } : Jvm.MethodName)) ∈ gTb := gT_2 178 rfl rfl
theorem gw_419 : (Jvm.Cond.instanceMethod ({ cls := "LogDisk$DiskFile", name := "remove", desc := "()V" } : Jvm.MethodName)) ∈ gTb := gT_2 179 rfl rfl
theorem gw_420 : (Jvm.Cond.selects "LogDisk$DiskFile" ({ cls := "LogDisk$DiskFile", name := "remove", desc := "()V" } : Jvm.MethodName) ({ cls := "LogDisk$DiskFile", name := "remove", desc := "()V" } : Jvm.MethodName)) ∈ gTb := gT_2 180 rfl rfl
theorem gw_421 : (Jvm.Cond.code ({ cls := "LogDisk$DiskFile", name := "remove", desc := "()V" } : Jvm.MethodName) prog_3_method_9_code (1 : Nat) (Option.none : Option Jvm.ClassFile.FieldType)) ∈ gTb := gT_2 181 rfl rfl
theorem gw_422 : (Jvm.Cond.methodLink "LogDiskLaw" (66 : Nat) ({ cls := "LogDiskLaw", name := "cell", desc := "([II)I" } : Jvm.MethodName)) ∈ gTb := gT_2 182 rfl rfl
theorem gw_423 : (Jvm.Cond.static ({ cls := "LogDiskLaw", name := "cell", desc := "([II)I" } : Jvm.MethodName)) ∈ gTb := gT_2 183 rfl rfl
theorem gw_424 : (Jvm.Cond.code ({ cls := "LogDiskLaw", name := "cell", desc := "([II)I" } : Jvm.MethodName) method_2_code (2 : Nat) (Option.some Jvm.ClassFile.FieldType.int)) ∈ gTb := gT_2 184 rfl rfl
theorem gw_425 : (Jvm.Cond.methodLink "LogDiskLaw" (79 : Nat) ({ cls := "LogDiskLaw", name := "feed", desc := "(LLogDisk;JI[J)I" } : Jvm.MethodName)) ∈ gTb := gT_2 185 rfl rfl
theorem gw_426 : (Jvm.Cond.static ({ cls := "LogDiskLaw", name := "feed", desc := "(LLogDisk;JI[J)I" } : Jvm.MethodName)) ∈ gTb := gT_2 186 rfl rfl
theorem gw_427 : (Jvm.Cond.codeWith ({ cls := "LogDiskLaw", name := "feed", desc := "(LLogDisk;JI[J)I" } : Jvm.MethodName) method_3_code (6 : Nat) (Option.some Jvm.ClassFile.FieldType.int) [((0 : Nat), (11 : Nat), (14 : Nat), (13 : Nat)), ((0 : Nat), (11 : Nat), (18 : Nat), (15 : Nat))]) ∈ gTb := gT_2 187 rfl rfl
theorem gw_428 : (Jvm.Cond.classLink "LogDiskLaw" (13 : Nat) "java/lang/IllegalArgumentException") ∈ gTb := gT_2 188 rfl rfl
theorem gw_429 : (Jvm.Cond.classLink "LogDiskLaw" (15 : Nat) "java/lang/IllegalStateException") ∈ gTb := gT_2 189 rfl rfl
theorem gw_430 : (Jvm.Cond.methodLink "LogDiskLaw" (7 : Nat) ({ cls := "LogDisk", name := "feed", desc := "(JI)I" } : Jvm.MethodName)) ∈ gTb := gT_2 190 rfl rfl
theorem gw_431 : (Jvm.Cond.instanceMethod ({ cls := "LogDisk", name := "feed", desc := "(JI)I" } : Jvm.MethodName)) ∈ gTb := gT_2 191 rfl rfl
theorem gw_432 : (Jvm.Cond.selects "LogDisk" ({ cls := "LogDisk", name := "feed", desc := "(JI)I" } : Jvm.MethodName) ({ cls := "LogDisk", name := "feed", desc := "(JI)I" } : Jvm.MethodName)) ∈ gTb := gT_2 192 rfl rfl
theorem gw_433 : (Jvm.Cond.code ({ cls := "LogDisk", name := "feed", desc := "(JI)I" } : Jvm.MethodName) prog_1_method_2_code (5 : Nat) (Option.some Jvm.ClassFile.FieldType.int)) ∈ gTb := gT_2 193 rfl rfl
theorem gw_434 : (Jvm.Cond.classLink "LogDisk" (89 : Nat) "java/lang/IllegalArgumentException") ∈ gTb := gT_2 194 rfl rfl
theorem gw_435 : (Jvm.Cond.instantiable "java/lang/IllegalArgumentException" (6 : Nat)) ∈ gTb := gT_2 195 rfl rfl
theorem gw_443 : (Jvm.Cond.selects "java/lang/IllegalArgumentException" ({ cls := "java/lang/Throwable", name := "fillInStackTrace", desc := "(I)Ljava/lang/Throwable;" } : Jvm.MethodName) ({ cls := "java/lang/Throwable", name := "fillInStackTrace", desc := "(I)Ljava/lang/Throwable;" } : Jvm.MethodName)) ∈ gTb := gT_2 203 rfl rfl
theorem gw_444 : (Jvm.Cond.selects "java/lang/IllegalArgumentException" ({ cls := "java/lang/Throwable", name := "fillInStackTrace", desc := "()Ljava/lang/Throwable;" } : Jvm.MethodName) ({ cls := "java/lang/Throwable", name := "fillInStackTrace", desc := "()Ljava/lang/Throwable;" } : Jvm.MethodName)) ∈ gTb := gT_2 204 rfl rfl
theorem gw_445 : (Jvm.Cond.lays "java/lang/IllegalArgumentException" "java/lang/Throwable" "cause" "Ljava/lang/Throwable;") ∈ gTb := gT_2 205 rfl rfl
theorem gw_446 : (Jvm.Cond.lays "java/lang/Throwable" "java/lang/Throwable" "cause" "Ljava/lang/Throwable;") ∈ gTb := gT_2 206 rfl rfl
theorem gw_447 : (Jvm.Cond.lays "java/lang/IllegalArgumentException" "java/lang/Throwable" "stackTrace" "[Ljava/lang/StackTraceElement;") ∈ gTb := gT_2 207 rfl rfl
theorem gw_448 : (Jvm.Cond.lays "java/lang/Throwable" "java/lang/Throwable" "stackTrace" "[Ljava/lang/StackTraceElement;") ∈ gTb := gT_2 208 rfl rfl
theorem gw_449 : (Jvm.Cond.lays "java/lang/IllegalArgumentException" "java/lang/Throwable" "suppressedExceptions" "Ljava/util/List;") ∈ gTb := gT_2 209 rfl rfl
theorem gw_450 : (Jvm.Cond.lays "java/lang/Throwable" "java/lang/Throwable" "suppressedExceptions" "Ljava/util/List;") ∈ gTb := gT_2 210 rfl rfl
theorem gw_451 : (Jvm.Cond.lays "java/lang/IllegalArgumentException" "java/lang/Throwable" "detailMessage" "Ljava/lang/String;") ∈ gTb := gT_2 211 rfl rfl
theorem gw_452 : (Jvm.Cond.lays "java/lang/Throwable" "java/lang/Throwable" "detailMessage" "Ljava/lang/String;") ∈ gTb := gT_2 212 rfl rfl
theorem gw_453 : (Jvm.Cond.lays "java/lang/IllegalArgumentException" "java/lang/Throwable" "backtrace" "Ljava/lang/Object;") ∈ gTb := gT_2 213 rfl rfl
theorem gw_454 : (Jvm.Cond.lays "java/lang/Throwable" "java/lang/Throwable" "backtrace" "Ljava/lang/Object;") ∈ gTb := gT_2 214 rfl rfl
theorem gw_455 : (Jvm.Cond.fieldLink "java/lang/Throwable" (198 : Nat) "java/lang/Throwable" "backtrace" "Ljava/lang/Object;") ∈ gTb := gT_2 215 rfl rfl
theorem gw_457 : (Jvm.Cond.instanceMethod ({ cls := "java/lang/Throwable", name := "<init>", desc := "()V" } : Jvm.MethodName)) ∈ gTb := gT_2 217 rfl rfl
theorem gw_458 : (Jvm.Cond.code ({ cls := "java/lang/Throwable", name := "<init>", desc := "()V" } : Jvm.MethodName) prog_21_method_1_code (1 : Nat) (Option.none : Option Jvm.ClassFile.FieldType)) ∈ gTb := gT_2 218 rfl rfl
theorem gw_459 : (Jvm.Cond.methodLink "java/lang/Throwable" (1 : Nat) ({ cls := "java/lang/Object", name := "<init>", desc := "()V" } : Jvm.MethodName)) ∈ gTb := gT_2 219 rfl rfl
theorem gw_460 : (Jvm.Cond.fieldLink "java/lang/Throwable" (13 : Nat) "java/lang/Throwable" "UNASSIGNED_STACK" "[Ljava/lang/StackTraceElement;") ∈ gTb := gT_2 220 rfl rfl
theorem gw_462 : (Jvm.Cond.fieldLink "java/lang/Throwable" (20 : Nat) "java/lang/Throwable" "SUPPRESSED_SENTINEL" "Ljava/util/List;") ∈ gTb := gT_2 222 rfl rfl
theorem gw_464 : (Jvm.Cond.methodLink "java/lang/Throwable" (27 : Nat) ({ cls := "java/lang/Throwable", name := "fillInStackTrace", desc := "()Ljava/lang/Throwable;" } : Jvm.MethodName)) ∈ gTb := gT_2 224 rfl rfl
theorem gw_465 : (Jvm.Cond.instanceMethod ({ cls := "java/lang/Throwable", name := "fillInStackTrace", desc := "()Ljava/lang/Throwable;" } : Jvm.MethodName)) ∈ gTb := gT_2 225 rfl rfl
theorem gw_466 : (Jvm.Cond.sameMethod "java/lang/Throwable" "java/lang/Throwable" "fillInStackTrace" "()Ljava/lang/Throwable;") ∈ gTb := gT_2 226 rfl rfl
theorem gw_467 : (Jvm.Cond.selects "java/lang/IllegalStateException" ({ cls := "java/lang/Throwable", name := "fillInStackTrace", desc := "()Ljava/lang/Throwable;" } : Jvm.MethodName) ({ cls := "java/lang/Throwable", name := "fillInStackTrace", desc := "()Ljava/lang/Throwable;" } : Jvm.MethodName)) ∈ gTb := gT_2 227 rfl rfl
theorem gw_468 : (Jvm.Cond.selects "java/lang/IndexOutOfBoundsException" ({ cls := "java/lang/Throwable", name := "fillInStackTrace", desc := "()Ljava/lang/Throwable;" } : Jvm.MethodName) ({ cls := "java/lang/Throwable", name := "fillInStackTrace", desc := "()Ljava/lang/Throwable;" } : Jvm.MethodName)) ∈ gTb := gT_2 228 rfl rfl
theorem gw_469 : (Jvm.Cond.selects "java/lang/UnsupportedOperationException" ({ cls := "java/lang/Throwable", name := "fillInStackTrace", desc := "()Ljava/lang/Throwable;" } : Jvm.MethodName) ({ cls := "java/lang/Throwable", name := "fillInStackTrace", desc := "()Ljava/lang/Throwable;" } : Jvm.MethodName)) ∈ gTb := gT_2 229 rfl rfl
theorem gw_470 : (Jvm.Cond.selects "java/util/NoSuchElementException" ({ cls := "java/lang/Throwable", name := "fillInStackTrace", desc := "()Ljava/lang/Throwable;" } : Jvm.MethodName) ({ cls := "java/lang/Throwable", name := "fillInStackTrace", desc := "()Ljava/lang/Throwable;" } : Jvm.MethodName)) ∈ gTb := gT_2 230 rfl rfl
theorem gw_471 : (Jvm.Cond.codeSync ({ cls := "java/lang/Throwable", name := "fillInStackTrace", desc := "()Ljava/lang/Throwable;" } : Jvm.MethodName) prog_21_method_18_code (1 : Nat) (Option.some (Jvm.ClassFile.FieldType.object "java/lang/Throwable"))) ∈ gTb := gT_2 231 rfl rfl
theorem gw_472 : (Jvm.Cond.methodLink "java/lang/Throwable" (202 : Nat) ({ cls := "java/lang/Throwable", name := "fillInStackTrace", desc := "(I)Ljava/lang/Throwable;" } : Jvm.MethodName)) ∈ gTb := gT_2 232 rfl rfl
theorem gw_474 : (Jvm.Cond.instanceMethod ({ cls := "java/lang/Throwable", name := "fillInStackTrace", desc := "(I)Ljava/lang/Throwable;" } : Jvm.MethodName)) ∈ gTb := gT_2 234 rfl rfl
theorem gw_475 : (Jvm.Cond.instantiable "java/lang/Throwable" (6 : Nat)) ∈ gTb := gT_2 235 rfl rfl
theorem gw_476 : (Jvm.Cond.native ({ cls := "java/lang/Throwable", name := "fillInStackTrace", desc := "(I)Ljava/lang/Throwable;" } : Jvm.MethodName)) ∈ gTb := gT_2 236 rfl rfl
theorem gw_478 : (Jvm.Cond.methodLink "LogDisk" (93 : Nat) ({ cls := "java/lang/IllegalArgumentException", name := "<init>", desc := "(Ljava/lang/String;)V" } : Jvm.MethodName)) ∈ gTb := gT_2 238 rfl rfl
theorem gw_479 : (Jvm.Cond.instanceMethod ({ cls := "java/lang/IllegalArgumentException", name := "<init>", desc := "(Ljava/lang/String;)V" } : Jvm.MethodName)) ∈ gTb := gT_2 239 rfl rfl
theorem gw_480 : (Jvm.Cond.code ({ cls := "java/lang/IllegalArgumentException", name := "<init>", desc := "(Ljava/lang/String;)V" } : Jvm.MethodName) prog_14_method_2_code (2 : Nat) (Option.none : Option Jvm.ClassFile.FieldType)) ∈ gTb := gT_3 0 rfl rfl
theorem gw_481 : (Jvm.Cond.methodLink "java/lang/IllegalArgumentException" (7 : Nat) ({ cls := "java/lang/RuntimeException", name := "<init>", desc := "(Ljava/lang/String;)V" } : Jvm.MethodName)) ∈ gTb := gT_3 1 rfl rfl
theorem gw_482 : (Jvm.Cond.instanceMethod ({ cls := "java/lang/RuntimeException", name := "<init>", desc := "(Ljava/lang/String;)V" } : Jvm.MethodName)) ∈ gTb := gT_3 2 rfl rfl
theorem gw_483 : (Jvm.Cond.code ({ cls := "java/lang/RuntimeException", name := "<init>", desc := "(Ljava/lang/String;)V" } : Jvm.MethodName) prog_18_method_2_code (2 : Nat) (Option.none : Option Jvm.ClassFile.FieldType)) ∈ gTb := gT_3 3 rfl rfl
theorem gw_484 : (Jvm.Cond.methodLink "java/lang/RuntimeException" (7 : Nat) ({ cls := "java/lang/Exception", name := "<init>", desc := "(Ljava/lang/String;)V" } : Jvm.MethodName)) ∈ gTb := gT_3 4 rfl rfl
theorem gw_485 : (Jvm.Cond.instanceMethod ({ cls := "java/lang/Exception", name := "<init>", desc := "(Ljava/lang/String;)V" } : Jvm.MethodName)) ∈ gTb := gT_3 5 rfl rfl
theorem gw_486 : (Jvm.Cond.code ({ cls := "java/lang/Exception", name := "<init>", desc := "(Ljava/lang/String;)V" } : Jvm.MethodName) prog_13_method_2_code (2 : Nat) (Option.none : Option Jvm.ClassFile.FieldType)) ∈ gTb := gT_3 6 rfl rfl
theorem gw_487 : (Jvm.Cond.methodLink "java/lang/Exception" (7 : Nat) ({ cls := "java/lang/Throwable", name := "<init>", desc := "(Ljava/lang/String;)V" } : Jvm.MethodName)) ∈ gTb := gT_3 7 rfl rfl
theorem gw_488 : (Jvm.Cond.instanceMethod ({ cls := "java/lang/Throwable", name := "<init>", desc := "(Ljava/lang/String;)V" } : Jvm.MethodName)) ∈ gTb := gT_3 8 rfl rfl
theorem gw_489 : (Jvm.Cond.code ({ cls := "java/lang/Throwable", name := "<init>", desc := "(Ljava/lang/String;)V" } : Jvm.MethodName) prog_21_method_2_code (2 : Nat) (Option.none : Option Jvm.ClassFile.FieldType)) ∈ gTb := gT_3 9 rfl rfl
theorem gw_490 : (Jvm.Cond.fieldLink "java/lang/Throwable" (198 : Nat) "java/lang/Throwable" "backtrace" "Ljava/lang/Object;") ∈ gTb := gT_3 10 rfl rfl
theorem gw_491 : (Jvm.Cond.fieldLink "java/lang/Throwable" (31 : Nat) "java/lang/Throwable" "detailMessage" "Ljava/lang/String;") ∈ gTb := gT_3 11 rfl rfl
theorem gw_492 : (Jvm.Cond.fieldLink "java/lang/Throwable" (7 : Nat) "java/lang/Throwable" "cause" "Ljava/lang/Throwable;") ∈ gTb := gT_3 12 rfl rfl
theorem gw_493 : (Jvm.Cond.fieldLink "java/lang/Throwable" (17 : Nat) "java/lang/Throwable" "stackTrace" "[Ljava/lang/StackTraceElement;") ∈ gTb := gT_3 13 rfl rfl
theorem gw_494 : (Jvm.Cond.fieldLink "java/lang/Throwable" (24 : Nat) "java/lang/Throwable" "suppressedExceptions" "Ljava/util/List;") ∈ gTb := gT_3 14 rfl rfl
theorem gw_499 : (Jvm.Cond.lays "java/lang/IllegalArgumentException" "java/lang/Throwable" "depth" "I") ∈ gTb := gT_3 19 rfl rfl
theorem gw_503 : (Jvm.Cond.classLink "LogDisk" (99 : Nat) "java/lang/IllegalStateException") ∈ gTb := gT_3 23 rfl rfl
theorem gw_504 : (Jvm.Cond.instantiable "java/lang/IllegalStateException" (6 : Nat)) ∈ gTb := gT_3 24 rfl rfl
theorem gw_506 : (Jvm.Cond.selects "java/lang/IllegalStateException" ({ cls := "java/lang/Throwable", name := "fillInStackTrace", desc := "(I)Ljava/lang/Throwable;" } : Jvm.MethodName) ({ cls := "java/lang/Throwable", name := "fillInStackTrace", desc := "(I)Ljava/lang/Throwable;" } : Jvm.MethodName)) ∈ gTb := gT_3 26 rfl rfl
theorem gw_507 : (Jvm.Cond.lays "java/lang/IllegalStateException" "java/lang/Throwable" "cause" "Ljava/lang/Throwable;") ∈ gTb := gT_3 27 rfl rfl
theorem gw_508 : (Jvm.Cond.lays "java/lang/IllegalStateException" "java/lang/Throwable" "stackTrace" "[Ljava/lang/StackTraceElement;") ∈ gTb := gT_3 28 rfl rfl
theorem gw_509 : (Jvm.Cond.lays "java/lang/IllegalStateException" "java/lang/Throwable" "suppressedExceptions" "Ljava/util/List;") ∈ gTb := gT_3 29 rfl rfl
theorem gw_510 : (Jvm.Cond.lays "java/lang/IllegalStateException" "java/lang/Throwable" "detailMessage" "Ljava/lang/String;") ∈ gTb := gT_3 30 rfl rfl
theorem gw_511 : (Jvm.Cond.lays "java/lang/IllegalStateException" "java/lang/Throwable" "backtrace" "Ljava/lang/Object;") ∈ gTb := gT_3 31 rfl rfl
theorem gw_513 : (Jvm.Cond.methodLink "LogDisk" (103 : Nat) ({ cls := "java/lang/IllegalStateException", name := "<init>", desc := "(Ljava/lang/String;)V" } : Jvm.MethodName)) ∈ gTb := gT_3 33 rfl rfl
theorem gw_514 : (Jvm.Cond.instanceMethod ({ cls := "java/lang/IllegalStateException", name := "<init>", desc := "(Ljava/lang/String;)V" } : Jvm.MethodName)) ∈ gTb := gT_3 34 rfl rfl
theorem gw_515 : (Jvm.Cond.code ({ cls := "java/lang/IllegalStateException", name := "<init>", desc := "(Ljava/lang/String;)V" } : Jvm.MethodName) prog_15_method_2_code (2 : Nat) (Option.none : Option Jvm.ClassFile.FieldType)) ∈ gTb := gT_3 35 rfl rfl
theorem gw_516 : (Jvm.Cond.methodLink "java/lang/IllegalStateException" (7 : Nat) ({ cls := "java/lang/RuntimeException", name := "<init>", desc := "(Ljava/lang/String;)V" } : Jvm.MethodName)) ∈ gTb := gT_3 36 rfl rfl
theorem gw_517 : (Jvm.Cond.lays "java/lang/IllegalStateException" "java/lang/Throwable" "depth" "I") ∈ gTb := gT_3 37 rfl rfl
theorem gw_519 : (Jvm.Cond.methodLink "LogDiskLaw" (87 : Nat) ({ cls := "LogDiskLaw", name := "save", desc := "(LLogDisk;II[J)I" } : Jvm.MethodName)) ∈ gTb := gT_3 39 rfl rfl
theorem gw_520 : (Jvm.Cond.static ({ cls := "LogDiskLaw", name := "save", desc := "(LLogDisk;II[J)I" } : Jvm.MethodName)) ∈ gTb := gT_3 40 rfl rfl
theorem gw_521 : (Jvm.Cond.codeWith ({ cls := "LogDiskLaw", name := "save", desc := "(LLogDisk;II[J)I" } : Jvm.MethodName) method_4_code (5 : Nat) (Option.some Jvm.ClassFile.FieldType.int) [((0 : Nat), (10 : Nat), (13 : Nat), (13 : Nat)), ((0 : Nat), (10 : Nat), (17 : Nat), (21 : Nat))]) ∈ gTb := gT_3 41 rfl rfl
theorem gw_522 : (Jvm.Cond.classLink "LogDiskLaw" (21 : Nat) "java/lang/UnsupportedOperationException") ∈ gTb := gT_3 42 rfl rfl
theorem gw_523 : (Jvm.Cond.methodLink "LogDiskLaw" (17 : Nat) ({ cls := "LogDisk", name := "save", desc := "(II)I" } : Jvm.MethodName)) ∈ gTb := gT_3 43 rfl rfl
theorem gw_524 : (Jvm.Cond.instanceMethod ({ cls := "LogDisk", name := "save", desc := "(II)I" } : Jvm.MethodName)) ∈ gTb := gT_3 44 rfl rfl
theorem gw_525 : (Jvm.Cond.selects "LogDisk" ({ cls := "LogDisk", name := "save", desc := "(II)I" } : Jvm.MethodName) ({ cls := "LogDisk", name := "save", desc := "(II)I" } : Jvm.MethodName)) ∈ gTb := gT_3 45 rfl rfl
theorem gw_526 : (Jvm.Cond.code ({ cls := "LogDisk", name := "save", desc := "(II)I" } : Jvm.MethodName) prog_1_method_3_code (4 : Nat) (Option.some Jvm.ClassFile.FieldType.int)) ∈ gTb := gT_3 46 rfl rfl
theorem gw_527 : (Jvm.Cond.constant "LogDisk" (111 : Nat) (1000000 : Int32)) ∈ gTb := gT_3 47 rfl rfl
theorem gw_530 : (Jvm.Cond.methodLink "LogDisk" (116 : Nat) ({ cls := "LogDisk$Vote", name := "nextFile", desc := "()I" } : Jvm.MethodName)) ∈ gTb := gT_3 50 rfl rfl
theorem gw_531 : (Jvm.Cond.instanceMethod ({ cls := "LogDisk$Vote", name := "nextFile", desc := "()I" } : Jvm.MethodName)) ∈ gTb := gT_3 51 rfl rfl
theorem gw_532 : (Jvm.Cond.selects "LogDisk$Vote" ({ cls := "LogDisk$Vote", name := "nextFile", desc := "()I" } : Jvm.MethodName) ({ cls := "LogDisk$Vote", name := "nextFile", desc := "()I" } : Jvm.MethodName)) ∈ gTb := gT_3 52 rfl rfl
theorem gw_533 : (Jvm.Cond.code ({ cls := "LogDisk$Vote", name := "nextFile", desc := "()I" } : Jvm.MethodName) prog_10_method_4_code (1 : Nat) (Option.some Jvm.ClassFile.FieldType.int)) ∈ gTb := gT_3 53 rfl rfl
theorem gw_534 : (Jvm.Cond.methodLink "LogDisk" (120 : Nat) ({ cls := "LogDisk$DiskFile", name := "canRewrite", desc := "(I)Z" } : Jvm.MethodName)) ∈ gTb := gT_3 54 rfl rfl
theorem gw_535 : (Jvm.Cond.instanceMethod ({ cls := "LogDisk$DiskFile", name := "canRewrite", desc := "(I)Z" } : Jvm.MethodName)) ∈ gTb := gT_3 55 rfl rfl
theorem gw_536 : (Jvm.Cond.selects "LogDisk$DiskFile" ({ cls := "LogDisk$DiskFile", name := "canRewrite", desc := "(I)Z" } : Jvm.MethodName) ({ cls := "LogDisk$DiskFile", name := "canRewrite", desc := "(I)Z" } : Jvm.MethodName)) ∈ gTb := gT_3 56 rfl rfl
theorem gw_537 : (Jvm.Cond.code ({ cls := "LogDisk$DiskFile", name := "canRewrite", desc := "(I)Z" } : Jvm.MethodName) prog_3_method_5_code (5 : Nat) (Option.some Jvm.ClassFile.FieldType.boolean)) ∈ gTb := gT_3 57 rfl rfl
theorem gw_539 : (Jvm.Cond.methodLink "LogDisk$DiskFile" (39 : Nat) ({ cls := "LogDisk$DiskFile", name := "isShared", desc := "(I)Z" } : Jvm.MethodName)) ∈ gTb := gT_3 59 rfl rfl
theorem gw_540 : (Jvm.Cond.instanceMethod ({ cls := "LogDisk$DiskFile", name := "isShared", desc := "(I)Z" } : Jvm.MethodName)) ∈ gTb := gT_3 60 rfl rfl
theorem gw_541 : (Jvm.Cond.selects "LogDisk$DiskFile" ({ cls := "LogDisk$DiskFile", name := "isShared", desc := "(I)Z" } : Jvm.MethodName) ({ cls := "LogDisk$DiskFile", name := "isShared", desc := "(I)Z" } : Jvm.MethodName)) ∈ gTb := gT_3 61 rfl rfl
theorem gw_542 : (Jvm.Cond.code ({ cls := "LogDisk$DiskFile", name := "isShared", desc := "(I)Z" } : Jvm.MethodName) prog_3_method_2_code (2 : Nat) (Option.some Jvm.ClassFile.FieldType.boolean)) ∈ gTb := gT_3 62 rfl rfl
theorem gw_543 : (Jvm.Cond.classLink "LogDisk" (124 : Nat) "java/lang/UnsupportedOperationException") ∈ gTb := gT_3 63 rfl rfl
theorem gw_544 : (Jvm.Cond.instantiable "java/lang/UnsupportedOperationException" (6 : Nat)) ∈ gTb := gT_3 64 rfl rfl
theorem gw_546 : (Jvm.Cond.selects "java/lang/UnsupportedOperationException" ({ cls := "java/lang/Throwable", name := "fillInStackTrace", desc := "(I)Ljava/lang/Throwable;" } : Jvm.MethodName) ({ cls := "java/lang/Throwable", name := "fillInStackTrace", desc := "(I)Ljava/lang/Throwable;" } : Jvm.MethodName)) ∈ gTb := gT_3 66 rfl rfl
theorem gw_547 : (Jvm.Cond.lays "java/lang/UnsupportedOperationException" "java/lang/Throwable" "cause" "Ljava/lang/Throwable;") ∈ gTb := gT_3 67 rfl rfl
theorem gw_548 : (Jvm.Cond.lays "java/lang/UnsupportedOperationException" "java/lang/Throwable" "stackTrace" "[Ljava/lang/StackTraceElement;") ∈ gTb := gT_3 68 rfl rfl
theorem gw_549 : (Jvm.Cond.lays "java/lang/UnsupportedOperationException" "java/lang/Throwable" "suppressedExceptions" "Ljava/util/List;") ∈ gTb := gT_3 69 rfl rfl
theorem gw_550 : (Jvm.Cond.lays "java/lang/UnsupportedOperationException" "java/lang/Throwable" "detailMessage" "Ljava/lang/String;") ∈ gTb := gT_3 70 rfl rfl
theorem gw_551 : (Jvm.Cond.lays "java/lang/UnsupportedOperationException" "java/lang/Throwable" "backtrace" "Ljava/lang/Object;") ∈ gTb := gT_3 71 rfl rfl
theorem gw_553 : (Jvm.Cond.methodLink "LogDisk" (128 : Nat) ({ cls := "java/lang/UnsupportedOperationException", name := "<init>", desc := "(Ljava/lang/String;)V" } : Jvm.MethodName)) ∈ gTb := gT_3 73 rfl rfl
theorem gw_554 : (Jvm.Cond.instanceMethod ({ cls := "java/lang/UnsupportedOperationException", name := "<init>", desc := "(Ljava/lang/String;)V" } : Jvm.MethodName)) ∈ gTb := gT_3 74 rfl rfl
theorem gw_555 : (Jvm.Cond.code ({ cls := "java/lang/UnsupportedOperationException", name := "<init>", desc := "(Ljava/lang/String;)V" } : Jvm.MethodName) prog_22_method_2_code (2 : Nat) (Option.none : Option Jvm.ClassFile.FieldType)) ∈ gTb := gT_3 75 rfl rfl
theorem gw_556 : (Jvm.Cond.methodLink "java/lang/UnsupportedOperationException" (7 : Nat) ({ cls := "java/lang/RuntimeException", name := "<init>", desc := "(Ljava/lang/String;)V" } : Jvm.MethodName)) ∈ gTb := gT_3 76 rfl rfl
theorem gw_557 : (Jvm.Cond.lays "java/lang/UnsupportedOperationException" "java/lang/Throwable" "depth" "I") ∈ gTb := gT_3 77 rfl rfl
theorem gw_559 : (Jvm.Cond.methodLink "LogDisk" (141 : Nat) ({ cls := "LogDisk", name := "writeVote", desc := "()V" } : Jvm.MethodName)) ∈ gTb := gT_3 79 rfl rfl
theorem gw_561 : (Jvm.Cond.instanceMethod ({ cls := "LogDisk", name := "writeVote", desc := "()V" } : Jvm.MethodName)) ∈ gTb := gT_3 81 rfl rfl
theorem gw_562 : (Jvm.Cond.code ({ cls := "LogDisk", name := "writeVote", desc := "()V" } : Jvm.MethodName) prog_1_method_24_code (1 : Nat) (Option.none : Option Jvm.ClassFile.FieldType)) ∈ gTb := gT_3 82 rfl rfl
theorem gw_563 : (Jvm.Cond.methodLink "LogDisk" (298 : Nat) ({ cls := "LogDisk$Frame", name := "begin", desc := "()V" } : Jvm.MethodName)) ∈ gTb := gT_3 83 rfl rfl
theorem gw_564 : (Jvm.Cond.instanceMethod ({ cls := "LogDisk$Frame", name := "begin", desc := "()V" } : Jvm.MethodName)) ∈ gTb := gT_3 84 rfl rfl
theorem gw_565 : (Jvm.Cond.selects "LogDisk$Frame" ({ cls := "LogDisk$Frame", name := "begin", desc := "()V" } : Jvm.MethodName) ({ cls := "LogDisk$Frame", name := "begin", desc := "()V" } : Jvm.MethodName)) ∈ gTb := gT_3 85 rfl rfl
theorem gw_566 : (Jvm.Cond.code ({ cls := "LogDisk$Frame", name := "begin", desc := "()V" } : Jvm.MethodName) prog_5_method_2_code (1 : Nat) (Option.none : Option Jvm.ClassFile.FieldType)) ∈ gTb := gT_3 86 rfl rfl
theorem gw_567 : (Jvm.Cond.methodLink "LogDisk" (301 : Nat) ({ cls := "LogDisk$Frame", name := "add", desc := "(JI)V" } : Jvm.MethodName)) ∈ gTb := gT_3 87 rfl rfl
theorem gw_568 : (Jvm.Cond.instanceMethod ({ cls := "LogDisk$Frame", name := "add", desc := "(JI)V" } : Jvm.MethodName)) ∈ gTb := gT_3 88 rfl rfl
theorem gw_569 : (Jvm.Cond.selects "LogDisk$Frame" ({ cls := "LogDisk$Frame", name := "add", desc := "(JI)V" } : Jvm.MethodName) ({ cls := "LogDisk$Frame", name := "add", desc := "(JI)V" } : Jvm.MethodName)) ∈ gTb := gT_3 89 rfl rfl
theorem gw_570 : (Jvm.Cond.code ({ cls := "LogDisk$Frame", name := "add", desc := "(JI)V" } : Jvm.MethodName) prog_5_method_3_code (4 : Nat) (Option.none : Option Jvm.ClassFile.FieldType)) ∈ gTb := gT_3 90 rfl rfl
theorem gw_571 : (Jvm.Cond.methodLink "LogDisk$Frame" (19 : Nat) ({ cls := "LogDisk$Frame", name := "put", desc := "(IJI)V" } : Jvm.MethodName)) ∈ gTb := gT_3 91 rfl rfl
theorem gw_572 : (Jvm.Cond.instanceMethod ({ cls := "LogDisk$Frame", name := "put", desc := "(IJI)V" } : Jvm.MethodName)) ∈ gTb := gT_3 92 rfl rfl
theorem gw_573 : (Jvm.Cond.selects "LogDisk$Frame" ({ cls := "LogDisk$Frame", name := "put", desc := "(IJI)V" } : Jvm.MethodName) ({ cls := "LogDisk$Frame", name := "put", desc := "(IJI)V" } : Jvm.MethodName)) ∈ gTb := gT_3 93 rfl rfl
theorem gw_574 : (Jvm.Cond.code ({ cls := "LogDisk$Frame", name := "put", desc := "(IJI)V" } : Jvm.MethodName) prog_5_method_6_code (6 : Nat) (Option.none : Option Jvm.ClassFile.FieldType)) ∈ gTb := gT_3 94 rfl rfl
theorem gw_575 : (Jvm.Cond.methodLink "LogDisk" (305 : Nat) ({ cls := "LogDisk$Frame", name := "close", desc := "()V" } : Jvm.MethodName)) ∈ gTb := gT_3 95 rfl rfl
theorem gw_576 : (Jvm.Cond.instanceMethod ({ cls := "LogDisk$Frame", name := "close", desc := "()V" } : Jvm.MethodName)) ∈ gTb := gT_3 96 rfl rfl
theorem gw_577 : (Jvm.Cond.selects "LogDisk$Frame" ({ cls := "LogDisk$Frame", name := "close", desc := "()V" } : Jvm.MethodName) ({ cls := "LogDisk$Frame", name := "close", desc := "()V" } : Jvm.MethodName)) ∈ gTb := gT_3 97 rfl rfl
theorem gw_578 : (Jvm.Cond.code ({ cls := "LogDisk$Frame", name := "close", desc := "()V" } : Jvm.MethodName) prog_5_method_5_code (3 : Nat) (Option.none : Option Jvm.ClassFile.FieldType)) ∈ gTb := gT_3 98 rfl rfl
theorem gw_580 : (Jvm.Cond.methodLink "LogDisk" (311 : Nat) ({ cls := "LogDisk$DiskFile", name := "write", desc := "([BI)V" } : Jvm.MethodName)) ∈ gTb := gT_3 100 rfl rfl
theorem gw_581 : (Jvm.Cond.instanceMethod ({ cls := "LogDisk$DiskFile", name := "write", desc := "([BI)V" } : Jvm.MethodName)) ∈ gTb := gT_3 101 rfl rfl
theorem gw_582 : (Jvm.Cond.selects "LogDisk$DiskFile" ({ cls := "LogDisk$DiskFile", name := "write", desc := "([BI)V" } : Jvm.MethodName) ({ cls := "LogDisk$DiskFile", name := "write", desc := "([BI)V" } : Jvm.MethodName)) ∈ gTb := gT_3 102 rfl rfl
theorem gw_583 : (Jvm.Cond.code ({ cls := "LogDisk$DiskFile", name := "write", desc := "([BI)V" } : Jvm.MethodName) prog_3_method_6_code (8 : Nat) (Option.none : Option Jvm.ClassFile.FieldType)) ∈ gTb := gT_3 103 rfl rfl
theorem gw_584 : (Jvm.Cond.methodLink "LogDisk$DiskFile" (43 : Nat) ({ cls := "LogDisk$DiskFile", name := "mustCopyLastPage", desc := "()Z" } : Jvm.MethodName)) ∈ gTb := gT_3 104 rfl rfl
theorem gw_585 : (Jvm.Cond.instanceMethod ({ cls := "LogDisk$DiskFile", name := "mustCopyLastPage", desc := "()Z" } : Jvm.MethodName)) ∈ gTb := gT_3 105 rfl rfl
theorem gw_586 : (Jvm.Cond.selects "LogDisk$DiskFile" ({ cls := "LogDisk$DiskFile", name := "mustCopyLastPage", desc := "()Z" } : Jvm.MethodName) ({ cls := "LogDisk$DiskFile", name := "mustCopyLastPage", desc := "()Z" } : Jvm.MethodName)) ∈ gTb := gT_3 106 rfl rfl
theorem gw_587 : (Jvm.Cond.code ({ cls := "LogDisk$DiskFile", name := "mustCopyLastPage", desc := "()Z" } : Jvm.MethodName) prog_3_method_3_code (1 : Nat) (Option.some Jvm.ClassFile.FieldType.boolean)) ∈ gTb := gT_3 107 rfl rfl
theorem gw_588 : (Jvm.Cond.methodLink "LogDisk$DiskFile" (52 : Nat) ({ cls := "LogDisk$DiskFile", name := "copyLastPage", desc := "()V" } : Jvm.MethodName)) ∈ gTb := gT_3 108 rfl rfl
theorem gw_589 : (Jvm.Cond.instanceMethod ({ cls := "LogDisk$DiskFile", name := "copyLastPage", desc := "()V" } : Jvm.MethodName)) ∈ gTb := gT_3 109 rfl rfl
theorem gw_590 : (Jvm.Cond.selects "LogDisk$DiskFile" ({ cls := "LogDisk$DiskFile", name := "copyLastPage", desc := "()V" } : Jvm.MethodName) ({ cls := "LogDisk$DiskFile", name := "copyLastPage", desc := "()V" } : Jvm.MethodName)) ∈ gTb := gT_3 110 rfl rfl
theorem gw_591 : (Jvm.Cond.code ({ cls := "LogDisk$DiskFile", name := "copyLastPage", desc := "()V" } : Jvm.MethodName) prog_3_method_7_code (4 : Nat) (Option.none : Option Jvm.ClassFile.FieldType)) ∈ gTb := gT_3 111 rfl rfl
theorem gw_592 : (Jvm.Cond.methodLink "LogDisk$DiskFile" (59 : Nat) ({ cls := "LogDisk$Pages", name := "seize", desc := "()I" } : Jvm.MethodName)) ∈ gTb := gT_3 112 rfl rfl
theorem gw_593 : (Jvm.Cond.instanceMethod ({ cls := "LogDisk$Pages", name := "seize", desc := "()I" } : Jvm.MethodName)) ∈ gTb := gT_3 113 rfl rfl
theorem gw_594 : (Jvm.Cond.selects "LogDisk$Pages" ({ cls := "LogDisk$Pages", name := "seize", desc := "()I" } : Jvm.MethodName) ({ cls := "LogDisk$Pages", name := "seize", desc := "()I" } : Jvm.MethodName)) ∈ gTb := gT_3 114 rfl rfl
theorem gw_595 : (Jvm.Cond.code ({ cls := "LogDisk$Pages", name := "seize", desc := "()I" } : Jvm.MethodName) prog_6_method_3_code (2 : Nat) (Option.some Jvm.ClassFile.FieldType.int)) ∈ gTb := gT_3 115 rfl rfl
theorem gw_596 : (Jvm.Cond.methodLink "LogDisk$DiskFile" (73 : Nat) ({ cls := "java/lang/System", name := "arraycopy", desc := "(Ljava/lang/Object;ILjava/lang/Object;II)V" } : Jvm.MethodName)) ∈ gTb := gT_3 116 rfl rfl
theorem gw_597 : (Jvm.Cond.static ({ cls := "java/lang/System", name := "arraycopy", desc := "(Ljava/lang/Object;ILjava/lang/Object;II)V" } : Jvm.MethodName)) ∈ gTb := gT_3 117 rfl rfl
theorem gw_598 : (Jvm.Cond.native ({ cls := "java/lang/System", name := "arraycopy", desc := "(Ljava/lang/Object;ILjava/lang/Object;II)V" } : Jvm.MethodName)) ∈ gTb := gT_3 118 rfl rfl
theorem gw_599 : (Jvm.Cond.methodLink "LogDisk$DiskFile" (79 : Nat) ({ cls := "LogDisk$Pages", name := "giveUp", desc := "(I)V" } : Jvm.MethodName)) ∈ gTb := gT_3 119 rfl rfl
theorem gw_600 : (Jvm.Cond.methodLink "LogDiskLaw" (91 : Nat) ({ cls := "LogDiskLaw", name := "append", desc := "(LLogDisk;II[J)I" } : Jvm.MethodName)) ∈ gTb := gT_3 120 rfl rfl
theorem gw_601 : (Jvm.Cond.static ({ cls := "LogDiskLaw", name := "append", desc := "(LLogDisk;II[J)I" } : Jvm.MethodName)) ∈ gTb := gT_3 121 rfl rfl
theorem gw_602 : (Jvm.Cond.codeWith ({ cls := "LogDiskLaw", name := "append", desc := "(LLogDisk;II[J)I" } : Jvm.MethodName) method_5_code (5 : Nat) (Option.some Jvm.ClassFile.FieldType.int) [((0 : Nat), (10 : Nat), (13 : Nat), (13 : Nat)), ((0 : Nat), (10 : Nat), (17 : Nat), (15 : Nat)), ((0 : Nat), (10 : Nat), (21 : Nat), (21 : Nat))]) ∈ gTb := gT_3 122 rfl rfl
theorem gw_603 : (Jvm.Cond.methodLink "LogDiskLaw" (23 : Nat) ({ cls := "LogDisk", name := "append", desc := "(II)I" } : Jvm.MethodName)) ∈ gTb := gT_3 123 rfl rfl
theorem gw_604 : (Jvm.Cond.instanceMethod ({ cls := "LogDisk", name := "append", desc := "(II)I" } : Jvm.MethodName)) ∈ gTb := gT_3 124 rfl rfl
theorem gw_605 : (Jvm.Cond.selects "LogDisk" ({ cls := "LogDisk", name := "append", desc := "(II)I" } : Jvm.MethodName) ({ cls := "LogDisk", name := "append", desc := "(II)I" } : Jvm.MethodName)) ∈ gTb := gT_3 125 rfl rfl
theorem gw_606 : (Jvm.Cond.code ({ cls := "LogDisk", name := "append", desc := "(II)I" } : Jvm.MethodName) prog_1_method_4_code (7 : Nat) (Option.some Jvm.ClassFile.FieldType.int)) ∈ gTb := gT_3 126 rfl rfl
theorem gw_607 : (Jvm.Cond.methodLink "LogDisk" (147 : Nat) ({ cls := "LogDisk$Tape", name := "handOver", desc := "()I" } : Jvm.MethodName)) ∈ gTb := gT_3 127 rfl rfl
theorem gw_608 : (Jvm.Cond.instanceMethod ({ cls := "LogDisk$Tape", name := "handOver", desc := "()I" } : Jvm.MethodName)) ∈ gTb := gT_3 128 rfl rfl
theorem gw_609 : (Jvm.Cond.selects "LogDisk$Tape" ({ cls := "LogDisk$Tape", name := "handOver", desc := "()I" } : Jvm.MethodName) ({ cls := "LogDisk$Tape", name := "handOver", desc := "()I" } : Jvm.MethodName)) ∈ gTb := gT_3 129 rfl rfl
theorem gw_610 : (Jvm.Cond.code ({ cls := "LogDisk$Tape", name := "handOver", desc := "()I" } : Jvm.MethodName) prog_9_method_2_code (2 : Nat) (Option.some Jvm.ClassFile.FieldType.int)) ∈ gTb := gT_3 130 rfl rfl
theorem gw_611 : (Jvm.Cond.methodLink "LogDisk" (153 : Nat) ({ cls := "LogDisk", name := "termAt", desc := "(I)I" } : Jvm.MethodName)) ∈ gTb := gT_3 131 rfl rfl
theorem gw_613 : (Jvm.Cond.instanceMethod ({ cls := "LogDisk", name := "termAt", desc := "(I)I" } : Jvm.MethodName)) ∈ gTb := gT_3 133 rfl rfl
theorem gw_614 : (Jvm.Cond.code ({ cls := "LogDisk", name := "termAt", desc := "(I)I" } : Jvm.MethodName) prog_1_method_20_code (2 : Nat) (Option.some Jvm.ClassFile.FieldType.int)) ∈ gTb := gT_3 134 rfl rfl
theorem gw_615 : (Jvm.Cond.methodLink "LogDisk" (186 : Nat) ({ cls := "LogDisk", name := "isInLog", desc := "(I)Z" } : Jvm.MethodName)) ∈ gTb := gT_3 135 rfl rfl
theorem gw_617 : (Jvm.Cond.instanceMethod ({ cls := "LogDisk", name := "isInLog", desc := "(I)Z" } : Jvm.MethodName)) ∈ gTb := gT_3 137 rfl rfl
theorem gw_618 : (Jvm.Cond.code ({ cls := "LogDisk", name := "isInLog", desc := "(I)Z" } : Jvm.MethodName) prog_1_method_19_code (2 : Nat) (Option.some Jvm.ClassFile.FieldType.boolean)) ∈ gTb := gT_3 138 rfl rfl
theorem gw_622 : (Jvm.Cond.methodLink "LogDisk" (166 : Nat) ({ cls := "LogDisk", name := "needsNewSegment", desc := "()Z" } : Jvm.MethodName)) ∈ gTb := gT_3 142 rfl rfl
theorem gw_624 : (Jvm.Cond.instanceMethod ({ cls := "LogDisk", name := "needsNewSegment", desc := "()Z" } : Jvm.MethodName)) ∈ gTb := gT_3 144 rfl rfl
theorem gw_625 : (Jvm.Cond.code ({ cls := "LogDisk", name := "needsNewSegment", desc := "()Z" } : Jvm.MethodName) prog_1_method_22_code (1 : Nat) (Option.some Jvm.ClassFile.FieldType.boolean)) ∈ gTb := gT_3 145 rfl rfl
theorem gw_626 : (Jvm.Cond.methodLink "LogDisk" (173 : Nat) ({ cls := "LogDisk$Segments", name := "lastFile", desc := "()I" } : Jvm.MethodName)) ∈ gTb := gT_3 146 rfl rfl
theorem gw_627 : (Jvm.Cond.instanceMethod ({ cls := "LogDisk$Segments", name := "lastFile", desc := "()I" } : Jvm.MethodName)) ∈ gTb := gT_3 147 rfl rfl
theorem gw_628 : (Jvm.Cond.selects "LogDisk$Segments" ({ cls := "LogDisk$Segments", name := "lastFile", desc := "()I" } : Jvm.MethodName) ({ cls := "LogDisk$Segments", name := "lastFile", desc := "()I" } : Jvm.MethodName)) ∈ gTb := gT_3 148 rfl rfl
theorem gw_629 : (Jvm.Cond.code ({ cls := "LogDisk$Segments", name := "lastFile", desc := "()I" } : Jvm.MethodName) prog_7_method_3_code (1 : Nat) (Option.some Jvm.ClassFile.FieldType.int)) ∈ gTb := gT_3 149 rfl rfl
theorem gw_630 : (Jvm.Cond.methodLink "LogDisk" (170 : Nat) ({ cls := "LogDisk", name := "lowestFreeFile", desc := "()I" } : Jvm.MethodName)) ∈ gTb := gT_3 150 rfl rfl
theorem gw_632 : (Jvm.Cond.instanceMethod ({ cls := "LogDisk", name := "lowestFreeFile", desc := "()I" } : Jvm.MethodName)) ∈ gTb := gT_3 152 rfl rfl
theorem gw_633 : (Jvm.Cond.code ({ cls := "LogDisk", name := "lowestFreeFile", desc := "()I" } : Jvm.MethodName) prog_1_method_23_code (2 : Nat) (Option.some Jvm.ClassFile.FieldType.int)) ∈ gTb := gT_3 153 rfl rfl
theorem gw_634 : (Jvm.Cond.methodLink "LogDisk" (176 : Nat) ({ cls := "LogDisk$DiskFile", name := "canExtend", desc := "(I)Z" } : Jvm.MethodName)) ∈ gTb := gT_3 154 rfl rfl
theorem gw_635 : (Jvm.Cond.instanceMethod ({ cls := "LogDisk$DiskFile", name := "canExtend", desc := "(I)Z" } : Jvm.MethodName)) ∈ gTb := gT_3 155 rfl rfl
theorem gw_636 : (Jvm.Cond.selects "LogDisk$DiskFile" ({ cls := "LogDisk$DiskFile", name := "canExtend", desc := "(I)Z" } : Jvm.MethodName) ({ cls := "LogDisk$DiskFile", name := "canExtend", desc := "(I)Z" } : Jvm.MethodName)) ∈ gTb := gT_3 156 rfl rfl
theorem gw_637 : (Jvm.Cond.code ({ cls := "LogDisk$DiskFile", name := "canExtend", desc := "(I)Z" } : Jvm.MethodName) prog_3_method_4_code (4 : Nat) (Option.some Jvm.ClassFile.FieldType.boolean)) ∈ gTb := gT_3 157 rfl rfl
theorem gw_638 : (Jvm.Cond.methodLink "LogDisk" (179 : Nat) ({ cls := "LogDisk", name := "openSegment", desc := "(I)V" } : Jvm.MethodName)) ∈ gTb := gT_3 158 rfl rfl
theorem gw_640 : (Jvm.Cond.instanceMethod ({ cls := "LogDisk", name := "openSegment", desc := "(I)V" } : Jvm.MethodName)) ∈ gTb := gT_3 160 rfl rfl
theorem gw_641 : (Jvm.Cond.code ({ cls := "LogDisk", name := "openSegment", desc := "(I)V" } : Jvm.MethodName) prog_1_method_25_code (2 : Nat) (Option.none : Option Jvm.ClassFile.FieldType)) ∈ gTb := gT_3 161 rfl rfl
theorem gw_642 : (Jvm.Cond.methodLink "LogDisk" (182 : Nat) ({ cls := "LogDisk", name := "writeEntry", desc := "(IIII)V" } : Jvm.MethodName)) ∈ gTb := gT_3 162 rfl rfl
theorem gw_644 : (Jvm.Cond.instanceMethod ({ cls := "LogDisk", name := "writeEntry", desc := "(IIII)V" } : Jvm.MethodName)) ∈ gTb := gT_3 164 rfl rfl
theorem gw_645 : (Jvm.Cond.code ({ cls := "LogDisk", name := "writeEntry", desc := "(IIII)V" } : Jvm.MethodName) prog_1_method_26_code (5 : Nat) (Option.none : Option Jvm.ClassFile.FieldType)) ∈ gTb := gT_3 165 rfl rfl
theorem gw_646 : (Jvm.Cond.methodLink "LogDisk" (321 : Nat) ({ cls := "LogDisk$Frame", name := "addBytes", desc := "([BI)V" } : Jvm.MethodName)) ∈ gTb := gT_3 166 rfl rfl
theorem gw_647 : (Jvm.Cond.instanceMethod ({ cls := "LogDisk$Frame", name := "addBytes", desc := "([BI)V" } : Jvm.MethodName)) ∈ gTb := gT_3 167 rfl rfl
theorem gw_648 : (Jvm.Cond.selects "LogDisk$Frame" ({ cls := "LogDisk$Frame", name := "addBytes", desc := "([BI)V" } : Jvm.MethodName) ({ cls := "LogDisk$Frame", name := "addBytes", desc := "([BI)V" } : Jvm.MethodName)) ∈ gTb := gT_3 168 rfl rfl
theorem gw_649 : (Jvm.Cond.code ({ cls := "LogDisk$Frame", name := "addBytes", desc := "([BI)V" } : Jvm.MethodName) prog_5_method_4_code (3 : Nat) (Option.none : Option Jvm.ClassFile.FieldType)) ∈ gTb := gT_3 169 rfl rfl
theorem gw_650 : (Jvm.Cond.methodLink "LogDisk$Frame" (23 : Nat) ({ cls := "java/lang/System", name := "arraycopy", desc := "(Ljava/lang/Object;ILjava/lang/Object;II)V" } : Jvm.MethodName)) ∈ gTb := gT_3 170 rfl rfl
theorem gw_651 : (Jvm.Cond.methodLink "LogDiskLaw" (94 : Nat) ({ cls := "LogDiskLaw", name := "cutFrom", desc := "(LLogDisk;I[J)I" } : Jvm.MethodName)) ∈ gTb := gT_3 171 rfl rfl
theorem gw_652 : (Jvm.Cond.static ({ cls := "LogDiskLaw", name := "cutFrom", desc := "(LLogDisk;I[J)I" } : Jvm.MethodName)) ∈ gTb := gT_3 172 rfl rfl
theorem gw_653 : (Jvm.Cond.codeWith ({ cls := "LogDiskLaw", name := "cutFrom", desc := "(LLogDisk;I[J)I" } : Jvm.MethodName) method_6_code (4 : Nat) (Option.some Jvm.ClassFile.FieldType.int) [((0 : Nat), (9 : Nat), (12 : Nat), (30 : Nat))]) ∈ gTb := gT_3 173 rfl rfl
theorem gw_654 : (Jvm.Cond.classLink "LogDiskLaw" (30 : Nat) "java/lang/IndexOutOfBoundsException") ∈ gTb := gT_3 174 rfl rfl
theorem gw_655 : (Jvm.Cond.methodLink "LogDiskLaw" (26 : Nat) ({ cls := "LogDisk", name := "cutFrom", desc := "(I)I" } : Jvm.MethodName)) ∈ gTb := gT_3 175 rfl rfl
theorem gw_656 : (Jvm.Cond.instanceMethod ({ cls := "LogDisk", name := "cutFrom", desc := "(I)I" } : Jvm.MethodName)) ∈ gTb := gT_3 176 rfl rfl
theorem gw_657 : (Jvm.Cond.selects "LogDisk" ({ cls := "LogDisk", name := "cutFrom", desc := "(I)I" } : Jvm.MethodName) ({ cls := "LogDisk", name := "cutFrom", desc := "(I)I" } : Jvm.MethodName)) ∈ gTb := gT_3 177 rfl rfl
theorem gw_658 : (Jvm.Cond.code ({ cls := "LogDisk", name := "cutFrom", desc := "(I)I" } : Jvm.MethodName) prog_1_method_5_code (4 : Nat) (Option.some Jvm.ClassFile.FieldType.int)) ∈ gTb := gT_3 178 rfl rfl
theorem gw_659 : (Jvm.Cond.classLink "LogDisk" (189 : Nat) "java/lang/IndexOutOfBoundsException") ∈ gTb := gT_3 179 rfl rfl
theorem gw_660 : (Jvm.Cond.instantiable "java/lang/IndexOutOfBoundsException" (6 : Nat)) ∈ gTb := gT_3 180 rfl rfl
theorem gw_662 : (Jvm.Cond.selects "java/lang/IndexOutOfBoundsException" ({ cls := "java/lang/Throwable", name := "fillInStackTrace", desc := "(I)Ljava/lang/Throwable;" } : Jvm.MethodName) ({ cls := "java/lang/Throwable", name := "fillInStackTrace", desc := "(I)Ljava/lang/Throwable;" } : Jvm.MethodName)) ∈ gTb := gT_3 182 rfl rfl
theorem gw_663 : (Jvm.Cond.lays "java/lang/IndexOutOfBoundsException" "java/lang/Throwable" "cause" "Ljava/lang/Throwable;") ∈ gTb := gT_3 183 rfl rfl
theorem gw_664 : (Jvm.Cond.lays "java/lang/IndexOutOfBoundsException" "java/lang/Throwable" "stackTrace" "[Ljava/lang/StackTraceElement;") ∈ gTb := gT_3 184 rfl rfl
theorem gw_665 : (Jvm.Cond.lays "java/lang/IndexOutOfBoundsException" "java/lang/Throwable" "suppressedExceptions" "Ljava/util/List;") ∈ gTb := gT_3 185 rfl rfl
theorem gw_666 : (Jvm.Cond.lays "java/lang/IndexOutOfBoundsException" "java/lang/Throwable" "detailMessage" "Ljava/lang/String;") ∈ gTb := gT_3 186 rfl rfl
theorem gw_667 : (Jvm.Cond.lays "java/lang/IndexOutOfBoundsException" "java/lang/Throwable" "backtrace" "Ljava/lang/Object;") ∈ gTb := gT_3 187 rfl rfl
theorem gw_669 : (Jvm.Cond.methodLink "LogDisk" (193 : Nat) ({ cls := "java/lang/IndexOutOfBoundsException", name := "<init>", desc := "(Ljava/lang/String;)V" } : Jvm.MethodName)) ∈ gTb := gT_3 189 rfl rfl
theorem gw_670 : (Jvm.Cond.instanceMethod ({ cls := "java/lang/IndexOutOfBoundsException", name := "<init>", desc := "(Ljava/lang/String;)V" } : Jvm.MethodName)) ∈ gTb := gT_3 190 rfl rfl
theorem gw_671 : (Jvm.Cond.code ({ cls := "java/lang/IndexOutOfBoundsException", name := "<init>", desc := "(Ljava/lang/String;)V" } : Jvm.MethodName) prog_16_method_2_code (2 : Nat) (Option.none : Option Jvm.ClassFile.FieldType)) ∈ gTb := gT_3 191 rfl rfl
theorem gw_672 : (Jvm.Cond.methodLink "java/lang/IndexOutOfBoundsException" (7 : Nat) ({ cls := "java/lang/RuntimeException", name := "<init>", desc := "(Ljava/lang/String;)V" } : Jvm.MethodName)) ∈ gTb := gT_3 192 rfl rfl
theorem gw_673 : (Jvm.Cond.lays "java/lang/IndexOutOfBoundsException" "java/lang/Throwable" "depth" "I") ∈ gTb := gT_3 193 rfl rfl
theorem gw_675 : (Jvm.Cond.methodLink "LogDiskLaw" (98 : Nat) ({ cls := "LogDiskLaw", name := "compact", desc := "(LLogDisk;II[J)I" } : Jvm.MethodName)) ∈ gTb := gT_3 195 rfl rfl
theorem gw_676 : (Jvm.Cond.static ({ cls := "LogDiskLaw", name := "compact", desc := "(LLogDisk;II[J)I" } : Jvm.MethodName)) ∈ gTb := gT_3 196 rfl rfl
theorem gw_677 : (Jvm.Cond.codeWith ({ cls := "LogDiskLaw", name := "compact", desc := "(LLogDisk;II[J)I" } : Jvm.MethodName) method_7_code (5 : Nat) (Option.some Jvm.ClassFile.FieldType.int) [((0 : Nat), (10 : Nat), (13 : Nat), (30 : Nat)), ((0 : Nat), (10 : Nat), (17 : Nat), (21 : Nat))]) ∈ gTb := gT_3 197 rfl rfl
theorem gw_678 : (Jvm.Cond.methodLink "LogDiskLaw" (32 : Nat) ({ cls := "LogDisk", name := "compact", desc := "(II)I" } : Jvm.MethodName)) ∈ gTb := gT_3 198 rfl rfl
theorem gw_679 : (Jvm.Cond.instanceMethod ({ cls := "LogDisk", name := "compact", desc := "(II)I" } : Jvm.MethodName)) ∈ gTb := gT_3 199 rfl rfl
theorem gw_680 : (Jvm.Cond.selects "LogDisk" ({ cls := "LogDisk", name := "compact", desc := "(II)I" } : Jvm.MethodName) ({ cls := "LogDisk", name := "compact", desc := "(II)I" } : Jvm.MethodName)) ∈ gTb := gT_3 200 rfl rfl
theorem gw_681 : (Jvm.Cond.code ({ cls := "LogDisk", name := "compact", desc := "(II)I" } : Jvm.MethodName) prog_1_method_6_code (5 : Nat) (Option.some Jvm.ClassFile.FieldType.int)) ∈ gTb := gT_3 201 rfl rfl
theorem gw_682 : (Jvm.Cond.methodLink "LogDisk" (216 : Nat) ({ cls := "LogDisk$Snapshot", name := "nextFile", desc := "()I" } : Jvm.MethodName)) ∈ gTb := gT_3 202 rfl rfl
theorem gw_683 : (Jvm.Cond.instanceMethod ({ cls := "LogDisk$Snapshot", name := "nextFile", desc := "()I" } : Jvm.MethodName)) ∈ gTb := gT_3 203 rfl rfl
theorem gw_684 : (Jvm.Cond.selects "LogDisk$Snapshot" ({ cls := "LogDisk$Snapshot", name := "nextFile", desc := "()I" } : Jvm.MethodName) ({ cls := "LogDisk$Snapshot", name := "nextFile", desc := "()I" } : Jvm.MethodName)) ∈ gTb := gT_3 204 rfl rfl
theorem gw_685 : (Jvm.Cond.code ({ cls := "LogDisk$Snapshot", name := "nextFile", desc := "()I" } : Jvm.MethodName) prog_8_method_3_code (1 : Nat) (Option.some Jvm.ClassFile.FieldType.int)) ∈ gTb := gT_3 205 rfl rfl
theorem gw_686 : (Jvm.Cond.methodLink "LogDisk" (217 : Nat) ({ cls := "LogDisk", name := "moveBase", desc := "(IIII)V" } : Jvm.MethodName)) ∈ gTb := gT_3 206 rfl rfl
theorem gw_688 : (Jvm.Cond.instanceMethod ({ cls := "LogDisk", name := "moveBase", desc := "(IIII)V" } : Jvm.MethodName)) ∈ gTb := gT_3 208 rfl rfl
theorem gw_689 : (Jvm.Cond.code ({ cls := "LogDisk", name := "moveBase", desc := "(IIII)V" } : Jvm.MethodName) prog_1_method_27_code (6 : Nat) (Option.none : Option Jvm.ClassFile.FieldType)) ∈ gTb := gT_3 209 rfl rfl
theorem gw_690 : (Jvm.Cond.methodLink "LogDisk" (329 : Nat) ({ cls := "LogDisk", name := "dropSegments", desc := "()V" } : Jvm.MethodName)) ∈ gTb := gT_3 210 rfl rfl
theorem gw_692 : (Jvm.Cond.instanceMethod ({ cls := "LogDisk", name := "dropSegments", desc := "()V" } : Jvm.MethodName)) ∈ gTb := gT_3 212 rfl rfl
theorem gw_693 : (Jvm.Cond.code ({ cls := "LogDisk", name := "dropSegments", desc := "()V" } : Jvm.MethodName) prog_1_method_28_code (3 : Nat) (Option.none : Option Jvm.ClassFile.FieldType)) ∈ gTb := gT_3 213 rfl rfl
theorem gw_694 : (Jvm.Cond.methodLink "LogDisk" (332 : Nat) ({ cls := "LogDisk$Segments", name := "endedBy", desc := "(I)I" } : Jvm.MethodName)) ∈ gTb := gT_3 214 rfl rfl
theorem gw_695 : (Jvm.Cond.instanceMethod ({ cls := "LogDisk$Segments", name := "endedBy", desc := "(I)I" } : Jvm.MethodName)) ∈ gTb := gT_3 215 rfl rfl
theorem gw_696 : (Jvm.Cond.selects "LogDisk$Segments" ({ cls := "LogDisk$Segments", name := "endedBy", desc := "(I)I" } : Jvm.MethodName) ({ cls := "LogDisk$Segments", name := "endedBy", desc := "(I)I" } : Jvm.MethodName)) ∈ gTb := gT_3 216 rfl rfl
theorem gw_697 : (Jvm.Cond.code ({ cls := "LogDisk$Segments", name := "endedBy", desc := "(I)I" } : Jvm.MethodName) prog_7_method_5_code (4 : Nat) (Option.some Jvm.ClassFile.FieldType.int)) ∈ gTb := gT_3 217 rfl rfl
theorem gw_698 : (Jvm.Cond.methodLink "LogDisk" (335 : Nat) ({ cls := "LogDisk$Segments", name := "dropFront", desc := "(I)V" } : Jvm.MethodName)) ∈ gTb := gT_3 218 rfl rfl
theorem gw_699 : (Jvm.Cond.instanceMethod ({ cls := "LogDisk$Segments", name := "dropFront", desc := "(I)V" } : Jvm.MethodName)) ∈ gTb := gT_3 219 rfl rfl
theorem gw_700 : (Jvm.Cond.selects "LogDisk$Segments" ({ cls := "LogDisk$Segments", name := "dropFront", desc := "(I)V" } : Jvm.MethodName) ({ cls := "LogDisk$Segments", name := "dropFront", desc := "(I)V" } : Jvm.MethodName)) ∈ gTb := gT_3 220 rfl rfl
theorem gw_701 : (Jvm.Cond.code ({ cls := "LogDisk$Segments", name := "dropFront", desc := "(I)V" } : Jvm.MethodName) prog_7_method_6_code (3 : Nat) (Option.none : Option Jvm.ClassFile.FieldType)) ∈ gTb := gT_3 221 rfl rfl
theorem gw_702 : (Jvm.Cond.methodLink "LogDiskLaw" (101 : Nat) ({ cls := "LogDiskLaw", name := "take", desc := "(LLogDisk;III[J)I" } : Jvm.MethodName)) ∈ gTb := gT_3 222 rfl rfl
theorem gw_703 : (Jvm.Cond.static ({ cls := "LogDiskLaw", name := "take", desc := "(LLogDisk;III[J)I" } : Jvm.MethodName)) ∈ gTb := gT_3 223 rfl rfl
theorem gw_704 : (Jvm.Cond.codeWith ({ cls := "LogDiskLaw", name := "take", desc := "(LLogDisk;III[J)I" } : Jvm.MethodName) method_8_code (6 : Nat) (Option.some Jvm.ClassFile.FieldType.int) [((0 : Nat), (12 : Nat), (15 : Nat), (13 : Nat)), ((0 : Nat), (12 : Nat), (19 : Nat), (21 : Nat))]) ∈ gTb := gT_3 224 rfl rfl
theorem gw_705 : (Jvm.Cond.methodLink "LogDiskLaw" (35 : Nat) ({ cls := "LogDisk", name := "take", desc := "(III)I" } : Jvm.MethodName)) ∈ gTb := gT_3 225 rfl rfl
theorem gw_706 : (Jvm.Cond.instanceMethod ({ cls := "LogDisk", name := "take", desc := "(III)I" } : Jvm.MethodName)) ∈ gTb := gT_3 226 rfl rfl
theorem gw_707 : (Jvm.Cond.selects "LogDisk" ({ cls := "LogDisk", name := "take", desc := "(III)I" } : Jvm.MethodName) ({ cls := "LogDisk", name := "take", desc := "(III)I" } : Jvm.MethodName)) ∈ gTb := gT_3 227 rfl rfl
theorem gw_708 : (Jvm.Cond.code ({ cls := "LogDisk", name := "take", desc := "(III)I" } : Jvm.MethodName) prog_1_method_7_code (5 : Nat) (Option.some Jvm.ClassFile.FieldType.int)) ∈ gTb := gT_3 228 rfl rfl
theorem gw_711 : (Jvm.Cond.methodLink "LogDiskLaw" (110 : Nat) ({ cls := "LogDiskLaw", name := "keep", desc := "(LLogDisk;II)I" } : Jvm.MethodName)) ∈ gTb := gT_3 231 rfl rfl
theorem gw_712 : (Jvm.Cond.static ({ cls := "LogDiskLaw", name := "keep", desc := "(LLogDisk;II)I" } : Jvm.MethodName)) ∈ gTb := gT_3 232 rfl rfl
theorem gw_713 : (Jvm.Cond.codeWith ({ cls := "LogDiskLaw", name := "keep", desc := "(LLogDisk;II)I" } : Jvm.MethodName) method_9_code (4 : Nat) (Option.some Jvm.ClassFile.FieldType.int) [((0 : Nat), (6 : Nat), (9 : Nat), (30 : Nat)), ((0 : Nat), (6 : Nat), (12 : Nat), (13 : Nat))]) ∈ gTb := gT_3 233 rfl rfl
theorem gw_714 : (Jvm.Cond.methodLink "LogDiskLaw" (39 : Nat) ({ cls := "LogDisk", name := "keep", desc := "(II)V" } : Jvm.MethodName)) ∈ gTb := gT_3 234 rfl rfl
theorem gw_715 : (Jvm.Cond.instanceMethod ({ cls := "LogDisk", name := "keep", desc := "(II)V" } : Jvm.MethodName)) ∈ gTb := gT_3 235 rfl rfl
theorem gw_716 : (Jvm.Cond.selects "LogDisk" ({ cls := "LogDisk", name := "keep", desc := "(II)V" } : Jvm.MethodName) ({ cls := "LogDisk", name := "keep", desc := "(II)V" } : Jvm.MethodName)) ∈ gTb := gT_3 236 rfl rfl
theorem gw_717 : (Jvm.Cond.code ({ cls := "LogDisk", name := "keep", desc := "(II)V" } : Jvm.MethodName) prog_1_method_9_code (3 : Nat) (Option.none : Option Jvm.ClassFile.FieldType)) ∈ gTb := gT_3 237 rfl rfl
theorem gw_718 : (Jvm.Cond.methodLink "LogDisk" (227 : Nat) ({ cls := "LogDisk", name := "isFile", desc := "(I)Z" } : Jvm.MethodName)) ∈ gTb := gT_3 238 rfl rfl
theorem gw_719 : (Jvm.Cond.static ({ cls := "LogDisk", name := "isFile", desc := "(I)Z" } : Jvm.MethodName)) ∈ gTb := gT_3 239 rfl rfl
theorem gw_720 : (Jvm.Cond.code ({ cls := "LogDisk", name := "isFile", desc := "(I)Z" } : Jvm.MethodName) prog_1_method_18_code (1 : Nat) (Option.some Jvm.ClassFile.FieldType.boolean)) ∈ gTb := gT_4 0 rfl rfl
theorem gw_723 : (Jvm.Cond.methodLink "LogDiskLaw" (119 : Nat) ({ cls := "LogDiskLaw", name := "state", desc := "(LLogDisk;I[J)I" } : Jvm.MethodName)) ∈ gTb := gT_4 3 rfl rfl
theorem gw_724 : (Jvm.Cond.static ({ cls := "LogDiskLaw", name := "state", desc := "(LLogDisk;I[J)I" } : Jvm.MethodName)) ∈ gTb := gT_4 4 rfl rfl
theorem gw_725 : (Jvm.Cond.codeWith ({ cls := "LogDiskLaw", name := "state", desc := "(LLogDisk;I[J)I" } : Jvm.MethodName) method_10_code (4 : Nat) (Option.some Jvm.ClassFile.FieldType.int) [((0 : Nat), (9 : Nat), (12 : Nat), (30 : Nat))]) ∈ gTb := gT_4 5 rfl rfl
theorem gw_726 : (Jvm.Cond.methodLink "LogDiskLaw" (43 : Nat) ({ cls := "LogDisk", name := "state", desc := "(I)I" } : Jvm.MethodName)) ∈ gTb := gT_4 6 rfl rfl
theorem gw_727 : (Jvm.Cond.instanceMethod ({ cls := "LogDisk", name := "state", desc := "(I)I" } : Jvm.MethodName)) ∈ gTb := gT_4 7 rfl rfl
theorem gw_728 : (Jvm.Cond.selects "LogDisk" ({ cls := "LogDisk", name := "state", desc := "(I)I" } : Jvm.MethodName) ({ cls := "LogDisk", name := "state", desc := "(I)I" } : Jvm.MethodName)) ∈ gTb := gT_4 8 rfl rfl
theorem gw_729 : (Jvm.Cond.code ({ cls := "LogDisk", name := "state", desc := "(I)I" } : Jvm.MethodName) prog_1_method_11_code (2 : Nat) (Option.some Jvm.ClassFile.FieldType.int)) ∈ gTb := gT_4 9 rfl rfl
theorem gw_730 : (Jvm.Cond.methodLink "LogDisk" (251 : Nat) ({ cls := "LogDisk", name := "snapshotBytes", desc := "()I" } : Jvm.MethodName)) ∈ gTb := gT_4 10 rfl rfl
theorem gw_732 : (Jvm.Cond.instanceMethod ({ cls := "LogDisk", name := "snapshotBytes", desc := "()I" } : Jvm.MethodName)) ∈ gTb := gT_4 12 rfl rfl
theorem gw_733 : (Jvm.Cond.code ({ cls := "LogDisk", name := "snapshotBytes", desc := "()I" } : Jvm.MethodName) prog_1_method_21_code (1 : Nat) (Option.some Jvm.ClassFile.FieldType.int)) ∈ gTb := gT_4 13 rfl rfl
theorem gw_734 : (Jvm.Cond.methodLink "LogDisk" (254 : Nat) ({ cls := "LogDisk$Pages", name := "used", desc := "()I" } : Jvm.MethodName)) ∈ gTb := gT_4 14 rfl rfl
theorem gw_735 : (Jvm.Cond.instanceMethod ({ cls := "LogDisk$Pages", name := "used", desc := "()I" } : Jvm.MethodName)) ∈ gTb := gT_4 15 rfl rfl
theorem gw_736 : (Jvm.Cond.selects "LogDisk$Pages" ({ cls := "LogDisk$Pages", name := "used", desc := "()I" } : Jvm.MethodName) ({ cls := "LogDisk$Pages", name := "used", desc := "()I" } : Jvm.MethodName)) ∈ gTb := gT_4 16 rfl rfl
theorem gw_737 : (Jvm.Cond.code ({ cls := "LogDisk$Pages", name := "used", desc := "()I" } : Jvm.MethodName) prog_6_method_2_code (1 : Nat) (Option.some Jvm.ClassFile.FieldType.int)) ∈ gTb := gT_4 17 rfl rfl
theorem gw_739 : (Jvm.Cond.methodLink "LogDiskLaw" (122 : Nat) ({ cls := "LogDiskLaw", name := "entry", desc := "(LLogDisk;II[J)I" } : Jvm.MethodName)) ∈ gTb := gT_4 19 rfl rfl
theorem gw_740 : (Jvm.Cond.static ({ cls := "LogDiskLaw", name := "entry", desc := "(LLogDisk;II[J)I" } : Jvm.MethodName)) ∈ gTb := gT_4 20 rfl rfl
theorem gw_741 : (Jvm.Cond.codeWith ({ cls := "LogDiskLaw", name := "entry", desc := "(LLogDisk;II[J)I" } : Jvm.MethodName) method_11_code (5 : Nat) (Option.some Jvm.ClassFile.FieldType.int) [((0 : Nat), (10 : Nat), (13 : Nat), (30 : Nat))]) ∈ gTb := gT_4 21 rfl rfl
theorem gw_742 : (Jvm.Cond.methodLink "LogDiskLaw" (46 : Nat) ({ cls := "LogDisk", name := "entry", desc := "(II)I" } : Jvm.MethodName)) ∈ gTb := gT_4 22 rfl rfl
theorem gw_743 : (Jvm.Cond.instanceMethod ({ cls := "LogDisk", name := "entry", desc := "(II)I" } : Jvm.MethodName)) ∈ gTb := gT_4 23 rfl rfl
theorem gw_744 : (Jvm.Cond.selects "LogDisk" ({ cls := "LogDisk", name := "entry", desc := "(II)I" } : Jvm.MethodName) ({ cls := "LogDisk", name := "entry", desc := "(II)I" } : Jvm.MethodName)) ∈ gTb := gT_4 24 rfl rfl
theorem gw_745 : (Jvm.Cond.code ({ cls := "LogDisk", name := "entry", desc := "(II)I" } : Jvm.MethodName) prog_1_method_12_code (4 : Nat) (Option.some Jvm.ClassFile.FieldType.int)) ∈ gTb := gT_4 25 rfl rfl
theorem gw_747 : (Jvm.Cond.methodLink "LogDiskLaw" (125 : Nat) ({ cls := "LogDiskLaw", name := "contentAt", desc := "(LLogDisk;II[J)I" } : Jvm.MethodName)) ∈ gTb := gT_4 27 rfl rfl
theorem gw_748 : (Jvm.Cond.static ({ cls := "LogDiskLaw", name := "contentAt", desc := "(LLogDisk;II[J)I" } : Jvm.MethodName)) ∈ gTb := gT_4 28 rfl rfl
theorem gw_749 : (Jvm.Cond.codeWith ({ cls := "LogDiskLaw", name := "contentAt", desc := "(LLogDisk;II[J)I" } : Jvm.MethodName) method_12_code (5 : Nat) (Option.some Jvm.ClassFile.FieldType.int) [((0 : Nat), (10 : Nat), (13 : Nat), (30 : Nat)), ((0 : Nat), (10 : Nat), (17 : Nat), (52 : Nat))]) ∈ gTb := gT_4 29 rfl rfl
theorem gw_750 : (Jvm.Cond.classLink "LogDiskLaw" (52 : Nat) "java/util/NoSuchElementException") ∈ gTb := gT_4 30 rfl rfl
theorem gw_751 : (Jvm.Cond.methodLink "LogDiskLaw" (49 : Nat) ({ cls := "LogDisk", name := "contentAt", desc := "(II)I" } : Jvm.MethodName)) ∈ gTb := gT_4 31 rfl rfl
theorem gw_752 : (Jvm.Cond.instanceMethod ({ cls := "LogDisk", name := "contentAt", desc := "(II)I" } : Jvm.MethodName)) ∈ gTb := gT_4 32 rfl rfl
theorem gw_753 : (Jvm.Cond.selects "LogDisk" ({ cls := "LogDisk", name := "contentAt", desc := "(II)I" } : Jvm.MethodName) ({ cls := "LogDisk", name := "contentAt", desc := "(II)I" } : Jvm.MethodName)) ∈ gTb := gT_4 33 rfl rfl
theorem gw_754 : (Jvm.Cond.code ({ cls := "LogDisk", name := "contentAt", desc := "(II)I" } : Jvm.MethodName) prog_1_method_13_code (4 : Nat) (Option.some Jvm.ClassFile.FieldType.int)) ∈ gTb := gT_4 34 rfl rfl
theorem gw_756 : (Jvm.Cond.classLink "LogDisk" (270 : Nat) "java/util/NoSuchElementException") ∈ gTb := gT_4 36 rfl rfl
theorem gw_757 : (Jvm.Cond.instantiable "java/util/NoSuchElementException" (6 : Nat)) ∈ gTb := gT_4 37 rfl rfl
theorem gw_759 : (Jvm.Cond.selects "java/util/NoSuchElementException" ({ cls := "java/lang/Throwable", name := "fillInStackTrace", desc := "(I)Ljava/lang/Throwable;" } : Jvm.MethodName) ({ cls := "java/lang/Throwable", name := "fillInStackTrace", desc := "(I)Ljava/lang/Throwable;" } : Jvm.MethodName)) ∈ gTb := gT_4 39 rfl rfl
theorem gw_760 : (Jvm.Cond.lays "java/util/NoSuchElementException" "java/lang/Throwable" "cause" "Ljava/lang/Throwable;") ∈ gTb := gT_4 40 rfl rfl
theorem gw_761 : (Jvm.Cond.lays "java/util/NoSuchElementException" "java/lang/Throwable" "stackTrace" "[Ljava/lang/StackTraceElement;") ∈ gTb := gT_4 41 rfl rfl
theorem gw_762 : (Jvm.Cond.lays "java/util/NoSuchElementException" "java/lang/Throwable" "suppressedExceptions" "Ljava/util/List;") ∈ gTb := gT_4 42 rfl rfl
theorem gw_763 : (Jvm.Cond.lays "java/util/NoSuchElementException" "java/lang/Throwable" "detailMessage" "Ljava/lang/String;") ∈ gTb := gT_4 43 rfl rfl
theorem gw_764 : (Jvm.Cond.lays "java/util/NoSuchElementException" "java/lang/Throwable" "backtrace" "Ljava/lang/Object;") ∈ gTb := gT_4 44 rfl rfl
theorem gw_766 : (Jvm.Cond.methodLink "LogDisk" (274 : Nat) ({ cls := "java/util/NoSuchElementException", name := "<init>", desc := "(Ljava/lang/String;)V" } : Jvm.MethodName)) ∈ gTb := gT_4 46 rfl rfl
theorem gw_767 : (Jvm.Cond.instanceMethod ({ cls := "java/util/NoSuchElementException", name := "<init>", desc := "(Ljava/lang/String;)V" } : Jvm.MethodName)) ∈ gTb := gT_4 47 rfl rfl
theorem gw_768 : (Jvm.Cond.code ({ cls := "java/util/NoSuchElementException", name := "<init>", desc := "(Ljava/lang/String;)V" } : Jvm.MethodName) prog_23_method_4_code (2 : Nat) (Option.none : Option Jvm.ClassFile.FieldType)) ∈ gTb := gT_4 48 rfl rfl
theorem gw_769 : (Jvm.Cond.methodLink "java/util/NoSuchElementException" (13 : Nat) ({ cls := "java/lang/RuntimeException", name := "<init>", desc := "(Ljava/lang/String;)V" } : Jvm.MethodName)) ∈ gTb := gT_4 49 rfl rfl
theorem gw_770 : (Jvm.Cond.lays "java/util/NoSuchElementException" "java/lang/Throwable" "depth" "I") ∈ gTb := gT_4 50 rfl rfl
theorem gw_772 : (Jvm.Cond.methodLink "LogDiskLaw" (128 : Nat) ({ cls := "LogDiskLaw", name := "snapshotAt", desc := "(LLogDisk;I[J)I" } : Jvm.MethodName)) ∈ gTb := gT_4 52 rfl rfl
theorem gw_773 : (Jvm.Cond.static ({ cls := "LogDiskLaw", name := "snapshotAt", desc := "(LLogDisk;I[J)I" } : Jvm.MethodName)) ∈ gTb := gT_4 53 rfl rfl
theorem gw_774 : (Jvm.Cond.codeWith ({ cls := "LogDiskLaw", name := "snapshotAt", desc := "(LLogDisk;I[J)I" } : Jvm.MethodName) method_13_code (4 : Nat) (Option.some Jvm.ClassFile.FieldType.int) [((0 : Nat), (9 : Nat), (12 : Nat), (30 : Nat))]) ∈ gTb := gT_4 54 rfl rfl
theorem gw_775 : (Jvm.Cond.methodLink "LogDiskLaw" (54 : Nat) ({ cls := "LogDisk", name := "snapshotAt", desc := "(I)I" } : Jvm.MethodName)) ∈ gTb := gT_4 55 rfl rfl
theorem gw_776 : (Jvm.Cond.instanceMethod ({ cls := "LogDisk", name := "snapshotAt", desc := "(I)I" } : Jvm.MethodName)) ∈ gTb := gT_4 56 rfl rfl
theorem gw_777 : (Jvm.Cond.selects "LogDisk" ({ cls := "LogDisk", name := "snapshotAt", desc := "(I)I" } : Jvm.MethodName) ({ cls := "LogDisk", name := "snapshotAt", desc := "(I)I" } : Jvm.MethodName)) ∈ gTb := gT_4 57 rfl rfl
theorem gw_778 : (Jvm.Cond.code ({ cls := "LogDisk", name := "snapshotAt", desc := "(I)I" } : Jvm.MethodName) prog_1_method_14_code (2 : Nat) (Option.some Jvm.ClassFile.FieldType.int)) ∈ gTb := gT_4 58 rfl rfl
theorem gw_779 : (Jvm.Cond.methodLink "LogDiskLaw" (131 : Nat) ({ cls := "LogDiskLaw", name := "segment", desc := "(LLogDisk;II[J)I" } : Jvm.MethodName)) ∈ gTb := gT_4 59 rfl rfl
theorem gw_780 : (Jvm.Cond.static ({ cls := "LogDiskLaw", name := "segment", desc := "(LLogDisk;II[J)I" } : Jvm.MethodName)) ∈ gTb := gT_4 60 rfl rfl
theorem gw_781 : (Jvm.Cond.codeWith ({ cls := "LogDiskLaw", name := "segment", desc := "(LLogDisk;II[J)I" } : Jvm.MethodName) method_14_code (5 : Nat) (Option.some Jvm.ClassFile.FieldType.int) [((0 : Nat), (10 : Nat), (13 : Nat), (30 : Nat))]) ∈ gTb := gT_4 61 rfl rfl
theorem gw_782 : (Jvm.Cond.methodLink "LogDiskLaw" (57 : Nat) ({ cls := "LogDisk", name := "segment", desc := "(II)I" } : Jvm.MethodName)) ∈ gTb := gT_4 62 rfl rfl
theorem gw_783 : (Jvm.Cond.instanceMethod ({ cls := "LogDisk", name := "segment", desc := "(II)I" } : Jvm.MethodName)) ∈ gTb := gT_4 63 rfl rfl
theorem gw_784 : (Jvm.Cond.selects "LogDisk" ({ cls := "LogDisk", name := "segment", desc := "(II)I" } : Jvm.MethodName) ({ cls := "LogDisk", name := "segment", desc := "(II)I" } : Jvm.MethodName)) ∈ gTb := gT_4 64 rfl rfl
theorem gw_785 : (Jvm.Cond.code ({ cls := "LogDisk", name := "segment", desc := "(II)I" } : Jvm.MethodName) prog_1_method_15_code (3 : Nat) (Option.some Jvm.ClassFile.FieldType.int)) ∈ gTb := gT_4 65 rfl rfl
theorem gw_787 : (Jvm.Cond.methodLink "LogDiskLaw" (134 : Nat) ({ cls := "LogDiskLaw", name := "file", desc := "(LLogDisk;II[J)I" } : Jvm.MethodName)) ∈ gTb := gT_4 67 rfl rfl
theorem gw_788 : (Jvm.Cond.static ({ cls := "LogDiskLaw", name := "file", desc := "(LLogDisk;II[J)I" } : Jvm.MethodName)) ∈ gTb := gT_4 68 rfl rfl
theorem gw_789 : (Jvm.Cond.codeWith ({ cls := "LogDiskLaw", name := "file", desc := "(LLogDisk;II[J)I" } : Jvm.MethodName) method_15_code (5 : Nat) (Option.some Jvm.ClassFile.FieldType.int) [((0 : Nat), (10 : Nat), (13 : Nat), (30 : Nat))]) ∈ gTb := gT_4 69 rfl rfl
theorem gw_790 : (Jvm.Cond.methodLink "LogDiskLaw" (60 : Nat) ({ cls := "LogDisk", name := "file", desc := "(II)I" } : Jvm.MethodName)) ∈ gTb := gT_4 70 rfl rfl
theorem gw_791 : (Jvm.Cond.instanceMethod ({ cls := "LogDisk", name := "file", desc := "(II)I" } : Jvm.MethodName)) ∈ gTb := gT_4 71 rfl rfl
theorem gw_792 : (Jvm.Cond.selects "LogDisk" ({ cls := "LogDisk", name := "file", desc := "(II)I" } : Jvm.MethodName) ({ cls := "LogDisk", name := "file", desc := "(II)I" } : Jvm.MethodName)) ∈ gTb := gT_4 72 rfl rfl
theorem gw_793 : (Jvm.Cond.code ({ cls := "LogDisk", name := "file", desc := "(II)I" } : Jvm.MethodName) prog_1_method_16_code (4 : Nat) (Option.some Jvm.ClassFile.FieldType.int)) ∈ gTb := gT_4 73 rfl rfl
theorem gw_794 : (Jvm.Cond.methodLink "LogDiskLaw" (137 : Nat) ({ cls := "LogDiskLaw", name := "byteAt", desc := "(LLogDisk;II[J)I" } : Jvm.MethodName)) ∈ gTb := gT_4 74 rfl rfl
theorem gw_795 : (Jvm.Cond.static ({ cls := "LogDiskLaw", name := "byteAt", desc := "(LLogDisk;II[J)I" } : Jvm.MethodName)) ∈ gTb := gT_4 75 rfl rfl
theorem gw_796 : (Jvm.Cond.codeWith ({ cls := "LogDiskLaw", name := "byteAt", desc := "(LLogDisk;II[J)I" } : Jvm.MethodName) method_16_code (5 : Nat) (Option.some Jvm.ClassFile.FieldType.int) [((0 : Nat), (10 : Nat), (13 : Nat), (30 : Nat))]) ∈ gTb := gT_4 76 rfl rfl
theorem gw_797 : (Jvm.Cond.methodLink "LogDiskLaw" (63 : Nat) ({ cls := "LogDisk", name := "byteAt", desc := "(II)I" } : Jvm.MethodName)) ∈ gTb := gT_4 77 rfl rfl
theorem gw_798 : (Jvm.Cond.instanceMethod ({ cls := "LogDisk", name := "byteAt", desc := "(II)I" } : Jvm.MethodName)) ∈ gTb := gT_4 78 rfl rfl
theorem gw_799 : (Jvm.Cond.selects "LogDisk" ({ cls := "LogDisk", name := "byteAt", desc := "(II)I" } : Jvm.MethodName) ({ cls := "LogDisk", name := "byteAt", desc := "(II)I" } : Jvm.MethodName)) ∈ gTb := gT_4 79 rfl rfl
theorem gw_800 : (Jvm.Cond.code ({ cls := "LogDisk", name := "byteAt", desc := "(II)I" } : Jvm.MethodName) prog_1_method_17_code (3 : Nat) (Option.some Jvm.ClassFile.FieldType.int)) ∈ gTb := gT_4 80 rfl rfl
theorem gw_801 : (Jvm.Cond.classLink "LogDiskLaw" (74 : Nat) "LogDiskModel") ∈ gTb := gT_4 81 rfl rfl
theorem gw_802 : (Jvm.Cond.instantiable "LogDiskModel" (35 : Nat)) ∈ gTb := gT_4 82 rfl rfl
theorem gw_803 : (Jvm.Cond.methodLink "LogDiskLaw" (76 : Nat) ({ cls := "LogDiskModel", name := "<init>", desc := "(II)V" } : Jvm.MethodName)) ∈ gTb := gT_4 83 rfl rfl
theorem gw_804 : (Jvm.Cond.instanceMethod ({ cls := "LogDiskModel", name := "<init>", desc := "(II)V" } : Jvm.MethodName)) ∈ gTb := gT_4 84 rfl rfl
theorem gw_805 : (Jvm.Cond.code ({ cls := "LogDiskModel", name := "<init>", desc := "(II)V" } : Jvm.MethodName) prog_12_method_1_code (4 : Nat) (Option.none : Option Jvm.ClassFile.FieldType)) ∈ gTb := gT_4 85 rfl rfl
theorem gw_806 : (Jvm.Cond.methodLink "LogDiskModel" (1 : Nat) ({ cls := "java/lang/Object", name := "<init>", desc := "()V" } : Jvm.MethodName)) ∈ gTb := gT_4 86 rfl rfl
theorem gw_807 : (Jvm.Cond.fieldLink "LogDiskModel" (78 : Nat) "LogDiskModel" "thrown" "I") ∈ gTb := gT_4 87 rfl rfl
theorem gw_808 : (Jvm.Cond.fieldLink "LogDiskModel" (66 : Nat) "LogDiskModel" "limit" "I") ∈ gTb := gT_4 88 rfl rfl
theorem gw_809 : (Jvm.Cond.fieldLink "LogDiskModel" (69 : Nat) "LogDiskModel" "firstCode" "I") ∈ gTb := gT_4 89 rfl rfl
theorem gw_810 : (Jvm.Cond.fieldLink "LogDiskModel" (81 : Nat) "LogDiskModel" "frames" "I") ∈ gTb := gT_4 90 rfl rfl
theorem gw_811 : (Jvm.Cond.fieldLink "LogDiskModel" (7 : Nat) "LogDiskModel" "sorts" "[I") ∈ gTb := gT_4 91 rfl rfl
theorem gw_812 : (Jvm.Cond.fieldLink "LogDiskModel" (13 : Nat) "LogDiskModel" "as" "[I") ∈ gTb := gT_4 92 rfl rfl
theorem gw_813 : (Jvm.Cond.fieldLink "LogDiskModel" (16 : Nat) "LogDiskModel" "bs" "[I") ∈ gTb := gT_4 93 rfl rfl
theorem gw_814 : (Jvm.Cond.fieldLink "LogDiskModel" (19 : Nat) "LogDiskModel" "cs" "[I") ∈ gTb := gT_4 94 rfl rfl
theorem gw_815 : (Jvm.Cond.fieldLink "LogDiskModel" (22 : Nat) "LogDiskModel" "froms" "[I") ∈ gTb := gT_4 95 rfl rfl
theorem gw_816 : (Jvm.Cond.fieldLink "LogDiskModel" (25 : Nat) "LogDiskModel" "lengths" "[I") ∈ gTb := gT_4 96 rfl rfl
theorem gw_817 : (Jvm.Cond.fieldLink "LogDiskModel" (28 : Nat) "LogDiskModel" "bytes" "[I") ∈ gTb := gT_4 97 rfl rfl
theorem gw_818 : (Jvm.Cond.fieldLink "LogDiskModel" (84 : Nat) "LogDiskModel" "used" "I") ∈ gTb := gT_4 98 rfl rfl
theorem gw_819 : (Jvm.Cond.fieldLink "LogDiskModel" (31 : Nat) "LogDiskModel" "rows" "[I") ∈ gTb := gT_4 99 rfl rfl
theorem gw_820 : (Jvm.Cond.fieldLink "LogDiskModel" (34 : Nat) "LogDiskModel" "counts" "[I") ∈ gTb := gT_4 100 rfl rfl
theorem gw_821 : (Jvm.Cond.fieldLink "LogDiskModel" (37 : Nat) "LogDiskModel" "sizes" "[I") ∈ gTb := gT_4 101 rfl rfl
theorem gw_822 : (Jvm.Cond.fieldLink "LogDiskModel" (40 : Nat) "LogDiskModel" "there" "[Z") ∈ gTb := gT_4 102 rfl rfl
theorem gw_823 : (Jvm.Cond.fieldLink "LogDiskModel" (44 : Nat) "LogDiskModel" "lows" "[I") ∈ gTb := gT_4 103 rfl rfl
theorem gw_824 : (Jvm.Cond.fieldLink "LogDiskModel" (47 : Nat) "LogDiskModel" "shared" "[I") ∈ gTb := gT_4 104 rfl rfl
theorem gw_825 : (Jvm.Cond.fieldLink "LogDiskModel" (50 : Nat) "LogDiskModel" "keeps" "[I") ∈ gTb := gT_4 105 rfl rfl
theorem gw_826 : (Jvm.Cond.fieldLink "LogDiskModel" (135 : Nat) "LogDiskModel" "term" "I") ∈ gTb := gT_4 106 rfl rfl
theorem gw_827 : (Jvm.Cond.fieldLink "LogDiskModel" (53 : Nat) "LogDiskModel" "voted" "I") ∈ gTb := gT_4 107 rfl rfl
theorem gw_828 : (Jvm.Cond.fieldLink "LogDiskModel" (150 : Nat) "LogDiskModel" "times" "I") ∈ gTb := gT_4 108 rfl rfl
theorem gw_829 : (Jvm.Cond.fieldLink "LogDiskModel" (143 : Nat) "LogDiskModel" "slot" "I") ∈ gTb := gT_4 109 rfl rfl
theorem gw_830 : (Jvm.Cond.fieldLink "LogDiskModel" (163 : Nat) "LogDiskModel" "base" "I") ∈ gTb := gT_4 110 rfl rfl
theorem gw_831 : (Jvm.Cond.fieldLink "LogDiskModel" (166 : Nat) "LogDiskModel" "baseTerm" "I") ∈ gTb := gT_4 111 rfl rfl
theorem gw_832 : (Jvm.Cond.fieldLink "LogDiskModel" (72 : Nat) "LogDiskModel" "code" "I") ∈ gTb := gT_4 112 rfl rfl
theorem gw_833 : (Jvm.Cond.fieldLink "LogDiskModel" (75 : Nat) "LogDiskModel" "snapshot" "I") ∈ gTb := gT_4 113 rfl rfl
theorem gw_834 : (Jvm.Cond.fieldLink "LogDiskModel" (169 : Nat) "LogDiskModel" "last" "I") ∈ gTb := gT_4 114 rfl rfl
theorem gw_835 : (Jvm.Cond.fieldLink "LogDiskModel" (139 : Nat) "LogDiskModel" "slotSince" "Z") ∈ gTb := gT_4 115 rfl rfl
theorem gw_836 : (Jvm.Cond.fieldLink "LogDiskModel" (160 : Nat) "LogDiskModel" "dirty" "Z") ∈ gTb := gT_4 116 rfl rfl
theorem gw_837 : (Jvm.Cond.fieldLink "LogDiskModel" (175 : Nat) "LogDiskModel" "segments" "I") ∈ gTb := gT_4 117 rfl rfl
theorem gw_838 : (Jvm.Cond.fieldLink "LogDiskModel" (57 : Nat) "LogDiskModel" "order" "[I") ∈ gTb := gT_4 118 rfl rfl
theorem gw_839 : (Jvm.Cond.fieldLink "LogDiskModel" (60 : Nat) "LogDiskModel" "entries" "[I") ∈ gTb := gT_4 119 rfl rfl
theorem gw_840 : (Jvm.Cond.fieldLink "LogDiskModel" (132 : Nat) "LogDiskModel" "tape" "I") ∈ gTb := gT_4 120 rfl rfl
theorem gw_841 : (Jvm.Cond.fieldLink "LogDiskModel" (63 : Nat) "LogDiskModel" "fed" "[I") ∈ gTb := gT_4 121 rfl rfl
theorem gw_842 : (Jvm.Cond.lays "LogDiskModel" "LogDiskModel" "thrown" "I") ∈ gTb := gT_4 122 rfl rfl
theorem gw_844 : (Jvm.Cond.laysFinal "LogDiskModel" "LogDiskModel" "limit" "I") ∈ gTb := gT_4 124 rfl rfl
theorem gw_846 : (Jvm.Cond.laysFinal "LogDiskModel" "LogDiskModel" "firstCode" "I") ∈ gTb := gT_4 126 rfl rfl
theorem gw_848 : (Jvm.Cond.lays "LogDiskModel" "LogDiskModel" "frames" "I") ∈ gTb := gT_4 128 rfl rfl
theorem gw_850 : (Jvm.Cond.laysFinal "LogDiskModel" "LogDiskModel" "sorts" "[I") ∈ gTb := gT_4 130 rfl rfl
theorem gw_852 : (Jvm.Cond.laysFinal "LogDiskModel" "LogDiskModel" "as" "[I") ∈ gTb := gT_4 132 rfl rfl
theorem gw_854 : (Jvm.Cond.laysFinal "LogDiskModel" "LogDiskModel" "bs" "[I") ∈ gTb := gT_4 134 rfl rfl
theorem gw_856 : (Jvm.Cond.laysFinal "LogDiskModel" "LogDiskModel" "cs" "[I") ∈ gTb := gT_4 136 rfl rfl
theorem gw_858 : (Jvm.Cond.laysFinal "LogDiskModel" "LogDiskModel" "froms" "[I") ∈ gTb := gT_4 138 rfl rfl
theorem gw_860 : (Jvm.Cond.laysFinal "LogDiskModel" "LogDiskModel" "lengths" "[I") ∈ gTb := gT_4 140 rfl rfl
theorem gw_862 : (Jvm.Cond.laysFinal "LogDiskModel" "LogDiskModel" "bytes" "[I") ∈ gTb := gT_4 142 rfl rfl
theorem gw_864 : (Jvm.Cond.lays "LogDiskModel" "LogDiskModel" "used" "I") ∈ gTb := gT_4 144 rfl rfl
theorem gw_866 : (Jvm.Cond.laysFinal "LogDiskModel" "LogDiskModel" "rows" "[I") ∈ gTb := gT_4 146 rfl rfl
theorem gw_868 : (Jvm.Cond.laysFinal "LogDiskModel" "LogDiskModel" "counts" "[I") ∈ gTb := gT_4 148 rfl rfl
theorem gw_870 : (Jvm.Cond.laysFinal "LogDiskModel" "LogDiskModel" "sizes" "[I") ∈ gTb := gT_4 150 rfl rfl
theorem gw_872 : (Jvm.Cond.laysFinal "LogDiskModel" "LogDiskModel" "there" "[Z") ∈ gTb := gT_4 152 rfl rfl
theorem gw_874 : (Jvm.Cond.laysFinal "LogDiskModel" "LogDiskModel" "lows" "[I") ∈ gTb := gT_4 154 rfl rfl
theorem gw_876 : (Jvm.Cond.laysFinal "LogDiskModel" "LogDiskModel" "shared" "[I") ∈ gTb := gT_4 156 rfl rfl
theorem gw_878 : (Jvm.Cond.laysFinal "LogDiskModel" "LogDiskModel" "keeps" "[I") ∈ gTb := gT_4 158 rfl rfl
theorem gw_880 : (Jvm.Cond.lays "LogDiskModel" "LogDiskModel" "term" "I") ∈ gTb := gT_4 160 rfl rfl
theorem gw_882 : (Jvm.Cond.lays "LogDiskModel" "LogDiskModel" "voted" "I") ∈ gTb := gT_4 162 rfl rfl
theorem gw_884 : (Jvm.Cond.lays "LogDiskModel" "LogDiskModel" "times" "I") ∈ gTb := gT_4 164 rfl rfl
theorem gw_886 : (Jvm.Cond.lays "LogDiskModel" "LogDiskModel" "slot" "I") ∈ gTb := gT_4 166 rfl rfl
theorem gw_888 : (Jvm.Cond.lays "LogDiskModel" "LogDiskModel" "base" "I") ∈ gTb := gT_4 168 rfl rfl
theorem gw_890 : (Jvm.Cond.lays "LogDiskModel" "LogDiskModel" "baseTerm" "I") ∈ gTb := gT_4 170 rfl rfl
theorem gw_892 : (Jvm.Cond.lays "LogDiskModel" "LogDiskModel" "code" "I") ∈ gTb := gT_4 172 rfl rfl
theorem gw_894 : (Jvm.Cond.lays "LogDiskModel" "LogDiskModel" "snapshot" "I") ∈ gTb := gT_4 174 rfl rfl
theorem gw_896 : (Jvm.Cond.lays "LogDiskModel" "LogDiskModel" "last" "I") ∈ gTb := gT_4 176 rfl rfl
theorem gw_898 : (Jvm.Cond.lays "LogDiskModel" "LogDiskModel" "slotSince" "Z") ∈ gTb := gT_4 178 rfl rfl
theorem gw_900 : (Jvm.Cond.lays "LogDiskModel" "LogDiskModel" "dirty" "Z") ∈ gTb := gT_4 180 rfl rfl
theorem gw_902 : (Jvm.Cond.lays "LogDiskModel" "LogDiskModel" "segments" "I") ∈ gTb := gT_4 182 rfl rfl
theorem gw_904 : (Jvm.Cond.laysFinal "LogDiskModel" "LogDiskModel" "order" "[I") ∈ gTb := gT_4 184 rfl rfl
theorem gw_906 : (Jvm.Cond.laysFinal "LogDiskModel" "LogDiskModel" "entries" "[I") ∈ gTb := gT_4 186 rfl rfl
theorem gw_908 : (Jvm.Cond.lays "LogDiskModel" "LogDiskModel" "tape" "I") ∈ gTb := gT_4 188 rfl rfl
theorem gw_910 : (Jvm.Cond.laysFinal "LogDiskModel" "LogDiskModel" "fed" "[I") ∈ gTb := gT_4 190 rfl rfl
theorem gw_913 : (Jvm.Cond.arrayClass Jvm.ClassFile.FieldType.boolean) ∈ gTb := gT_4 193 rfl rfl
theorem gw_914 : (Jvm.Cond.methodLink "LogDiskLaw" (83 : Nat) ({ cls := "LogDiskModel", name := "thrown", desc := "()I" } : Jvm.MethodName)) ∈ gTb := gT_4 194 rfl rfl
theorem gw_915 : (Jvm.Cond.instanceMethod ({ cls := "LogDiskModel", name := "thrown", desc := "()I" } : Jvm.MethodName)) ∈ gTb := gT_4 195 rfl rfl
theorem gw_916 : (Jvm.Cond.selects "LogDiskModel" ({ cls := "LogDiskModel", name := "thrown", desc := "()I" } : Jvm.MethodName) ({ cls := "LogDiskModel", name := "thrown", desc := "()I" } : Jvm.MethodName)) ∈ gTb := gT_4 196 rfl rfl
theorem gw_917 : (Jvm.Cond.code ({ cls := "LogDiskModel", name := "thrown", desc := "()I" } : Jvm.MethodName) prog_12_method_2_code (1 : Nat) (Option.some Jvm.ClassFile.FieldType.int)) ∈ gTb := gT_4 197 rfl rfl
theorem gw_918 : (Jvm.Cond.methodLink "LogDiskLaw" (82 : Nat) ({ cls := "LogDiskModel", name := "feed", desc := "(JI)I" } : Jvm.MethodName)) ∈ gTb := gT_4 198 rfl rfl
theorem gw_919 : (Jvm.Cond.instanceMethod ({ cls := "LogDiskModel", name := "feed", desc := "(JI)I" } : Jvm.MethodName)) ∈ gTb := gT_4 199 rfl rfl
theorem gw_920 : (Jvm.Cond.selects "LogDiskModel" ({ cls := "LogDiskModel", name := "feed", desc := "(JI)I" } : Jvm.MethodName) ({ cls := "LogDiskModel", name := "feed", desc := "(JI)I" } : Jvm.MethodName)) ∈ gTb := gT_4 200 rfl rfl
theorem gw_921 : (Jvm.Cond.code ({ cls := "LogDiskModel", name := "feed", desc := "(JI)I" } : Jvm.MethodName) prog_12_method_23_code (5 : Nat) (Option.some Jvm.ClassFile.FieldType.int)) ∈ gTb := gT_4 201 rfl rfl
theorem gw_922 : (Jvm.Cond.methodLink "LogDiskModel" (125 : Nat) ({ cls := "LogDiskModel", name := "within", desc := "(III)Z" } : Jvm.MethodName)) ∈ gTb := gT_4 202 rfl rfl
theorem gw_923 : (Jvm.Cond.static ({ cls := "LogDiskModel", name := "within", desc := "(III)Z" } : Jvm.MethodName)) ∈ gTb := gT_4 203 rfl rfl
theorem gw_924 : (Jvm.Cond.code ({ cls := "LogDiskModel", name := "within", desc := "(III)Z" } : Jvm.MethodName) prog_12_method_4_code (3 : Nat) (Option.some Jvm.ClassFile.FieldType.boolean)) ∈ gTb := gT_4 204 rfl rfl
theorem gw_925 : (Jvm.Cond.methodLink "LogDiskModel" (129 : Nat) ({ cls := "LogDiskModel", name := "fail", desc := "(I)I" } : Jvm.MethodName)) ∈ gTb := gT_4 205 rfl rfl
theorem gw_927 : (Jvm.Cond.instanceMethod ({ cls := "LogDiskModel", name := "fail", desc := "(I)I" } : Jvm.MethodName)) ∈ gTb := gT_4 207 rfl rfl
theorem gw_928 : (Jvm.Cond.code ({ cls := "LogDiskModel", name := "fail", desc := "(I)I" } : Jvm.MethodName) prog_12_method_3_code (2 : Nat) (Option.some Jvm.ClassFile.FieldType.int)) ∈ gTb := gT_4 208 rfl rfl
theorem gw_929 : (Jvm.Cond.methodLink "LogDiskModel" (93 : Nat) ({ cls := "LogDiskModel", name := "byteOf", desc := "(JI)I" } : Jvm.MethodName)) ∈ gTb := gT_4 209 rfl rfl
theorem gw_930 : (Jvm.Cond.static ({ cls := "LogDiskModel", name := "byteOf", desc := "(JI)I" } : Jvm.MethodName)) ∈ gTb := gT_4 210 rfl rfl
theorem gw_931 : (Jvm.Cond.code ({ cls := "LogDiskModel", name := "byteOf", desc := "(JI)I" } : Jvm.MethodName) prog_12_method_9_code (3 : Nat) (Option.some Jvm.ClassFile.FieldType.int)) ∈ gTb := gT_4 211 rfl rfl
theorem gw_932 : (Jvm.Cond.constantLong "LogDiskModel" (91 : Nat) (255 : Int64)) ∈ gTb := gT_4 212 rfl rfl
theorem gw_933 : (Jvm.Cond.methodLink "LogDiskLaw" (90 : Nat) ({ cls := "LogDiskModel", name := "save", desc := "(II)I" } : Jvm.MethodName)) ∈ gTb := gT_4 213 rfl rfl
theorem gw_934 : (Jvm.Cond.instanceMethod ({ cls := "LogDiskModel", name := "save", desc := "(II)I" } : Jvm.MethodName)) ∈ gTb := gT_4 214 rfl rfl
theorem gw_935 : (Jvm.Cond.selects "LogDiskModel" ({ cls := "LogDiskModel", name := "save", desc := "(II)I" } : Jvm.MethodName) ({ cls := "LogDiskModel", name := "save", desc := "(II)I" } : Jvm.MethodName)) ∈ gTb := gT_4 215 rfl rfl
theorem gw_936 : (Jvm.Cond.code ({ cls := "LogDiskModel", name := "save", desc := "(II)I" } : Jvm.MethodName) prog_12_method_24_code (5 : Nat) (Option.some Jvm.ClassFile.FieldType.int)) ∈ gTb := gT_4 216 rfl rfl
theorem gw_937 : (Jvm.Cond.constant "LogDiskModel" (138 : Nat) (1000000 : Int32)) ∈ gTb := gT_4 217 rfl rfl
theorem gw_938 : (Jvm.Cond.methodLink "LogDiskModel" (146 : Nat) ({ cls := "LogDiskModel", name := "hasRoomAnew", desc := "(II)Z" } : Jvm.MethodName)) ∈ gTb := gT_4 218 rfl rfl
theorem gw_940 : (Jvm.Cond.instanceMethod ({ cls := "LogDiskModel", name := "hasRoomAnew", desc := "(II)Z" } : Jvm.MethodName)) ∈ gTb := gT_4 220 rfl rfl
theorem gw_941 : (Jvm.Cond.code ({ cls := "LogDiskModel", name := "hasRoomAnew", desc := "(II)Z" } : Jvm.MethodName) prog_12_method_17_code (4 : Nat) (Option.some Jvm.ClassFile.FieldType.boolean)) ∈ gTb := gT_4 221 rfl rfl
theorem gw_942 : (Jvm.Cond.methodLink "LogDiskModel" (111 : Nat) ({ cls := "LogDiskModel", name := "pagesUsed", desc := "()I" } : Jvm.MethodName)) ∈ gTb := gT_4 222 rfl rfl
theorem gw_944 : (Jvm.Cond.instanceMethod ({ cls := "LogDiskModel", name := "pagesUsed", desc := "()I" } : Jvm.MethodName)) ∈ gTb := gT_4 224 rfl rfl
theorem gw_945 : (Jvm.Cond.code ({ cls := "LogDiskModel", name := "pagesUsed", desc := "()I" } : Jvm.MethodName) prog_12_method_14_code (3 : Nat) (Option.some Jvm.ClassFile.FieldType.int)) ∈ gTb := gT_4 225 rfl rfl
theorem gw_946 : (Jvm.Cond.methodLink "LogDiskModel" (105 : Nat) ({ cls := "LogDiskModel", name := "pages", desc := "(I)I" } : Jvm.MethodName)) ∈ gTb := gT_4 226 rfl rfl
theorem gw_947 : (Jvm.Cond.static ({ cls := "LogDiskModel", name := "pages", desc := "(I)I" } : Jvm.MethodName)) ∈ gTb := gT_4 227 rfl rfl
theorem gw_948 : (Jvm.Cond.code ({ cls := "LogDiskModel", name := "pages", desc := "(I)I" } : Jvm.MethodName) prog_12_method_13_code (1 : Nat) (Option.some Jvm.ClassFile.FieldType.int)) ∈ gTb := gT_4 228 rfl rfl
theorem gw_949 : (Jvm.Cond.methodLink "LogDiskModel" (118 : Nat) ({ cls := "LogDiskModel", name := "cut", desc := "(II)V" } : Jvm.MethodName)) ∈ gTb := gT_4 229 rfl rfl
theorem gw_951 : (Jvm.Cond.instanceMethod ({ cls := "LogDiskModel", name := "cut", desc := "(II)V" } : Jvm.MethodName)) ∈ gTb := gT_4 231 rfl rfl
theorem gw_952 : (Jvm.Cond.code ({ cls := "LogDiskModel", name := "cut", desc := "(II)V" } : Jvm.MethodName) prog_12_method_18_code (5 : Nat) (Option.none : Option Jvm.ClassFile.FieldType)) ∈ gTb := gT_4 232 rfl rfl
theorem gw_953 : (Jvm.Cond.methodLink "LogDiskModel" (115 : Nat) ({ cls := "LogDiskModel", name := "space", desc := "(I)I" } : Jvm.MethodName)) ∈ gTb := gT_4 233 rfl rfl
theorem gw_955 : (Jvm.Cond.instanceMethod ({ cls := "LogDiskModel", name := "space", desc := "(I)I" } : Jvm.MethodName)) ∈ gTb := gT_4 235 rfl rfl
theorem gw_956 : (Jvm.Cond.code ({ cls := "LogDiskModel", name := "space", desc := "(I)I" } : Jvm.MethodName) prog_12_method_8_code (2 : Nat) (Option.some Jvm.ClassFile.FieldType.int)) ∈ gTb := gT_4 236 rfl rfl
theorem gw_957 : (Jvm.Cond.methodLink "LogDiskModel" (87 : Nat) ({ cls := "LogDiskModel", name := "payload", desc := "(I)I" } : Jvm.MethodName)) ∈ gTb := gT_4 237 rfl rfl
theorem gw_959 : (Jvm.Cond.instanceMethod ({ cls := "LogDiskModel", name := "payload", desc := "(I)I" } : Jvm.MethodName)) ∈ gTb := gT_4 239 rfl rfl
theorem gw_960 : (Jvm.Cond.code ({ cls := "LogDiskModel", name := "payload", desc := "(I)I" } : Jvm.MethodName) prog_12_method_7_code (2 : Nat) (Option.some Jvm.ClassFile.FieldType.int)) ∈ gTb := gT_5 0 rfl rfl
theorem gw_961 : (Jvm.Cond.methodLink "LogDiskModel" (153 : Nat) ({ cls := "LogDiskModel", name := "make", desc := "(IIII)I" } : Jvm.MethodName)) ∈ gTb := gT_5 1 rfl rfl
theorem gw_963 : (Jvm.Cond.instanceMethod ({ cls := "LogDiskModel", name := "make", desc := "(IIII)I" } : Jvm.MethodName)) ∈ gTb := gT_5 3 rfl rfl
theorem gw_964 : (Jvm.Cond.code ({ cls := "LogDiskModel", name := "make", desc := "(IIII)I" } : Jvm.MethodName) prog_12_method_5_code (6 : Nat) (Option.some Jvm.ClassFile.FieldType.int)) ∈ gTb := gT_5 4 rfl rfl
theorem gw_965 : (Jvm.Cond.methodLink "LogDiskModel" (157 : Nat) ({ cls := "LogDiskModel", name := "put", desc := "(II)V" } : Jvm.MethodName)) ∈ gTb := gT_5 5 rfl rfl
theorem gw_967 : (Jvm.Cond.instanceMethod ({ cls := "LogDiskModel", name := "put", desc := "(II)V" } : Jvm.MethodName)) ∈ gTb := gT_5 7 rfl rfl
theorem gw_968 : (Jvm.Cond.code ({ cls := "LogDiskModel", name := "put", desc := "(II)V" } : Jvm.MethodName) prog_12_method_20_code (3 : Nat) (Option.none : Option Jvm.ClassFile.FieldType)) ∈ gTb := gT_5 8 rfl rfl
theorem gw_969 : (Jvm.Cond.methodLink "LogDiskLaw" (93 : Nat) ({ cls := "LogDiskModel", name := "append", desc := "(II)I" } : Jvm.MethodName)) ∈ gTb := gT_5 9 rfl rfl
theorem gw_970 : (Jvm.Cond.instanceMethod ({ cls := "LogDiskModel", name := "append", desc := "(II)I" } : Jvm.MethodName)) ∈ gTb := gT_5 10 rfl rfl
theorem gw_971 : (Jvm.Cond.selects "LogDiskModel" ({ cls := "LogDiskModel", name := "append", desc := "(II)I" } : Jvm.MethodName) ({ cls := "LogDiskModel", name := "append", desc := "(II)I" } : Jvm.MethodName)) ∈ gTb := gT_5 11 rfl rfl
theorem gw_972 : (Jvm.Cond.code ({ cls := "LogDiskModel", name := "append", desc := "(II)I" } : Jvm.MethodName) prog_12_method_27_code (7 : Nat) (Option.some Jvm.ClassFile.FieldType.int)) ∈ gTb := gT_5 12 rfl rfl
theorem gw_973 : (Jvm.Cond.methodLink "LogDiskModel" (172 : Nat) ({ cls := "LogDiskModel", name := "termOf", desc := "(I)I" } : Jvm.MethodName)) ∈ gTb := gT_5 13 rfl rfl
theorem gw_975 : (Jvm.Cond.instanceMethod ({ cls := "LogDiskModel", name := "termOf", desc := "(I)I" } : Jvm.MethodName)) ∈ gTb := gT_5 15 rfl rfl
theorem gw_976 : (Jvm.Cond.code ({ cls := "LogDiskModel", name := "termOf", desc := "(I)I" } : Jvm.MethodName) prog_12_method_25_code (2 : Nat) (Option.some Jvm.ClassFile.FieldType.int)) ∈ gTb := gT_5 16 rfl rfl
theorem gw_977 : (Jvm.Cond.methodLink "LogDiskModel" (178 : Nat) ({ cls := "LogDiskModel", name := "freeFile", desc := "()I" } : Jvm.MethodName)) ∈ gTb := gT_5 17 rfl rfl
theorem gw_979 : (Jvm.Cond.instanceMethod ({ cls := "LogDiskModel", name := "freeFile", desc := "()I" } : Jvm.MethodName)) ∈ gTb := gT_5 19 rfl rfl
theorem gw_980 : (Jvm.Cond.code ({ cls := "LogDiskModel", name := "freeFile", desc := "()I" } : Jvm.MethodName) prog_12_method_26_code (2 : Nat) (Option.some Jvm.ClassFile.FieldType.int)) ∈ gTb := gT_5 20 rfl rfl
theorem gw_981 : (Jvm.Cond.methodLink "LogDiskModel" (181 : Nat) ({ cls := "LogDiskModel", name := "hasRoom", desc := "(II)Z" } : Jvm.MethodName)) ∈ gTb := gT_5 21 rfl rfl
theorem gw_983 : (Jvm.Cond.instanceMethod ({ cls := "LogDiskModel", name := "hasRoom", desc := "(II)Z" } : Jvm.MethodName)) ∈ gTb := gT_5 23 rfl rfl
theorem gw_984 : (Jvm.Cond.code ({ cls := "LogDiskModel", name := "hasRoom", desc := "(II)Z" } : Jvm.MethodName) prog_12_method_16_code (3 : Nat) (Option.some Jvm.ClassFile.FieldType.boolean)) ∈ gTb := gT_5 24 rfl rfl
theorem gw_985 : (Jvm.Cond.methodLink "LogDiskModel" (108 : Nat) ({ cls := "LogDiskModel", name := "needed", desc := "(II)I" } : Jvm.MethodName)) ∈ gTb := gT_5 25 rfl rfl
theorem gw_987 : (Jvm.Cond.instanceMethod ({ cls := "LogDiskModel", name := "needed", desc := "(II)I" } : Jvm.MethodName)) ∈ gTb := gT_5 27 rfl rfl
theorem gw_988 : (Jvm.Cond.code ({ cls := "LogDiskModel", name := "needed", desc := "(II)I" } : Jvm.MethodName) prog_12_method_15_code (4 : Nat) (Option.some Jvm.ClassFile.FieldType.int)) ∈ gTb := gT_5 28 rfl rfl
theorem gw_989 : (Jvm.Cond.methodLink "LogDiskModel" (184 : Nat) ({ cls := "LogDiskModel", name := "fill", desc := "(II)V" } : Jvm.MethodName)) ∈ gTb := gT_5 29 rfl rfl
theorem gw_991 : (Jvm.Cond.instanceMethod ({ cls := "LogDiskModel", name := "fill", desc := "(II)V" } : Jvm.MethodName)) ∈ gTb := gT_5 31 rfl rfl
theorem gw_992 : (Jvm.Cond.code ({ cls := "LogDiskModel", name := "fill", desc := "(II)V" } : Jvm.MethodName) prog_12_method_6_code (4 : Nat) (Option.none : Option Jvm.ClassFile.FieldType)) ∈ gTb := gT_5 32 rfl rfl
theorem gw_993 : (Jvm.Cond.methodLink "LogDiskLaw" (97 : Nat) ({ cls := "LogDiskModel", name := "cutFrom", desc := "(I)I" } : Jvm.MethodName)) ∈ gTb := gT_5 33 rfl rfl
theorem gw_994 : (Jvm.Cond.instanceMethod ({ cls := "LogDiskModel", name := "cutFrom", desc := "(I)I" } : Jvm.MethodName)) ∈ gTb := gT_5 34 rfl rfl
theorem gw_995 : (Jvm.Cond.selects "LogDiskModel" ({ cls := "LogDiskModel", name := "cutFrom", desc := "(I)I" } : Jvm.MethodName) ({ cls := "LogDiskModel", name := "cutFrom", desc := "(I)I" } : Jvm.MethodName)) ∈ gTb := gT_5 35 rfl rfl
theorem gw_996 : (Jvm.Cond.code ({ cls := "LogDiskModel", name := "cutFrom", desc := "(I)I" } : Jvm.MethodName) prog_12_method_30_code (5 : Nat) (Option.some Jvm.ClassFile.FieldType.int)) ∈ gTb := gT_5 36 rfl rfl
theorem gw_997 : (Jvm.Cond.methodLink "LogDiskModel" (187 : Nat) ({ cls := "LogDiskModel", name := "firstOf", desc := "(I)I" } : Jvm.MethodName)) ∈ gTb := gT_5 37 rfl rfl
theorem gw_999 : (Jvm.Cond.instanceMethod ({ cls := "LogDiskModel", name := "firstOf", desc := "(I)I" } : Jvm.MethodName)) ∈ gTb := gT_5 39 rfl rfl
theorem gw_1000 : (Jvm.Cond.code ({ cls := "LogDiskModel", name := "firstOf", desc := "(I)I" } : Jvm.MethodName) prog_12_method_28_code (2 : Nat) (Option.some Jvm.ClassFile.FieldType.int)) ∈ gTb := gT_5 40 rfl rfl
theorem gw_1001 : (Jvm.Cond.methodLink "LogDiskModel" (190 : Nat) ({ cls := "LogDiskModel", name := "remove", desc := "(I)V" } : Jvm.MethodName)) ∈ gTb := gT_5 41 rfl rfl
theorem gw_1003 : (Jvm.Cond.instanceMethod ({ cls := "LogDiskModel", name := "remove", desc := "(I)V" } : Jvm.MethodName)) ∈ gTb := gT_5 43 rfl rfl
theorem gw_1004 : (Jvm.Cond.code ({ cls := "LogDiskModel", name := "remove", desc := "(I)V" } : Jvm.MethodName) prog_12_method_19_code (2 : Nat) (Option.none : Option Jvm.ClassFile.FieldType)) ∈ gTb := gT_5 44 rfl rfl
theorem gw_1005 : (Jvm.Cond.methodLink "LogDiskModel" (194 : Nat) ({ cls := "LogDiskModel", name := "placeIn", desc := "(II)I" } : Jvm.MethodName)) ∈ gTb := gT_5 45 rfl rfl
theorem gw_1007 : (Jvm.Cond.instanceMethod ({ cls := "LogDiskModel", name := "placeIn", desc := "(II)I" } : Jvm.MethodName)) ∈ gTb := gT_5 47 rfl rfl
theorem gw_1008 : (Jvm.Cond.code ({ cls := "LogDiskModel", name := "placeIn", desc := "(II)I" } : Jvm.MethodName) prog_12_method_29_code (5 : Nat) (Option.some Jvm.ClassFile.FieldType.int)) ∈ gTb := gT_5 48 rfl rfl
theorem gw_1009 : (Jvm.Cond.methodLink "LogDiskLaw" (100 : Nat) ({ cls := "LogDiskModel", name := "compact", desc := "(II)I" } : Jvm.MethodName)) ∈ gTb := gT_5 49 rfl rfl
theorem gw_1010 : (Jvm.Cond.instanceMethod ({ cls := "LogDiskModel", name := "compact", desc := "(II)I" } : Jvm.MethodName)) ∈ gTb := gT_5 50 rfl rfl
theorem gw_1011 : (Jvm.Cond.selects "LogDiskModel" ({ cls := "LogDiskModel", name := "compact", desc := "(II)I" } : Jvm.MethodName) ({ cls := "LogDiskModel", name := "compact", desc := "(II)I" } : Jvm.MethodName)) ∈ gTb := gT_5 51 rfl rfl
theorem gw_1012 : (Jvm.Cond.code ({ cls := "LogDiskModel", name := "compact", desc := "(II)I" } : Jvm.MethodName) prog_12_method_34_code (6 : Nat) (Option.some Jvm.ClassFile.FieldType.int)) ∈ gTb := gT_5 52 rfl rfl
theorem gw_1013 : (Jvm.Cond.methodLink "LogDiskModel" (203 : Nat) ({ cls := "LogDiskModel", name := "write", desc := "(IIII)Z" } : Jvm.MethodName)) ∈ gTb := gT_5 53 rfl rfl
theorem gw_1015 : (Jvm.Cond.instanceMethod ({ cls := "LogDiskModel", name := "write", desc := "(IIII)Z" } : Jvm.MethodName)) ∈ gTb := gT_5 55 rfl rfl
theorem gw_1016 : (Jvm.Cond.code ({ cls := "LogDiskModel", name := "write", desc := "(IIII)Z" } : Jvm.MethodName) prog_12_method_33_code (7 : Nat) (Option.some Jvm.ClassFile.FieldType.boolean)) ∈ gTb := gT_5 56 rfl rfl
theorem gw_1017 : (Jvm.Cond.methodLink "LogDiskModel" (200 : Nat) ({ cls := "LogDiskModel", name := "settle", desc := "(I)V" } : Jvm.MethodName)) ∈ gTb := gT_5 57 rfl rfl
theorem gw_1019 : (Jvm.Cond.instanceMethod ({ cls := "LogDiskModel", name := "settle", desc := "(I)V" } : Jvm.MethodName)) ∈ gTb := gT_5 59 rfl rfl
theorem gw_1020 : (Jvm.Cond.code ({ cls := "LogDiskModel", name := "settle", desc := "(I)V" } : Jvm.MethodName) prog_12_method_22_code (2 : Nat) (Option.none : Option Jvm.ClassFile.FieldType)) ∈ gTb := gT_5 60 rfl rfl
theorem gw_1021 : (Jvm.Cond.methodLink "LogDiskModel" (122 : Nat) ({ cls := "LogDiskModel", name := "copy", desc := "(II)V" } : Jvm.MethodName)) ∈ gTb := gT_5 61 rfl rfl
theorem gw_1023 : (Jvm.Cond.instanceMethod ({ cls := "LogDiskModel", name := "copy", desc := "(II)V" } : Jvm.MethodName)) ∈ gTb := gT_5 63 rfl rfl
theorem gw_1024 : (Jvm.Cond.code ({ cls := "LogDiskModel", name := "copy", desc := "(II)V" } : Jvm.MethodName) prog_12_method_21_code (4 : Nat) (Option.none : Option Jvm.ClassFile.FieldType)) ∈ gTb := gT_5 64 rfl rfl
theorem gw_1025 : (Jvm.Cond.methodLink "LogDiskModel" (207 : Nat) ({ cls := "LogDiskModel", name := "rebase", desc := "(II)V" } : Jvm.MethodName)) ∈ gTb := gT_5 65 rfl rfl
theorem gw_1027 : (Jvm.Cond.instanceMethod ({ cls := "LogDiskModel", name := "rebase", desc := "(II)V" } : Jvm.MethodName)) ∈ gTb := gT_5 67 rfl rfl
theorem gw_1028 : (Jvm.Cond.code ({ cls := "LogDiskModel", name := "rebase", desc := "(II)V" } : Jvm.MethodName) prog_12_method_32_code (5 : Nat) (Option.none : Option Jvm.ClassFile.FieldType)) ∈ gTb := gT_5 68 rfl rfl
theorem gw_1029 : (Jvm.Cond.methodLink "LogDiskModel" (197 : Nat) ({ cls := "LogDiskModel", name := "lastOf", desc := "(I)I" } : Jvm.MethodName)) ∈ gTb := gT_5 69 rfl rfl
theorem gw_1031 : (Jvm.Cond.instanceMethod ({ cls := "LogDiskModel", name := "lastOf", desc := "(I)I" } : Jvm.MethodName)) ∈ gTb := gT_5 71 rfl rfl
theorem gw_1032 : (Jvm.Cond.code ({ cls := "LogDiskModel", name := "lastOf", desc := "(I)I" } : Jvm.MethodName) prog_12_method_31_code (2 : Nat) (Option.some Jvm.ClassFile.FieldType.int)) ∈ gTb := gT_5 72 rfl rfl
theorem gw_1033 : (Jvm.Cond.methodLink "LogDiskLaw" (104 : Nat) ({ cls := "LogDiskModel", name := "take", desc := "(III)I" } : Jvm.MethodName)) ∈ gTb := gT_5 73 rfl rfl
theorem gw_1034 : (Jvm.Cond.instanceMethod ({ cls := "LogDiskModel", name := "take", desc := "(III)I" } : Jvm.MethodName)) ∈ gTb := gT_5 74 rfl rfl
theorem gw_1035 : (Jvm.Cond.selects "LogDiskModel" ({ cls := "LogDiskModel", name := "take", desc := "(III)I" } : Jvm.MethodName) ({ cls := "LogDiskModel", name := "take", desc := "(III)I" } : Jvm.MethodName)) ∈ gTb := gT_5 75 rfl rfl
theorem gw_1036 : (Jvm.Cond.code ({ cls := "LogDiskModel", name := "take", desc := "(III)I" } : Jvm.MethodName) prog_12_method_35_code (6 : Nat) (Option.some Jvm.ClassFile.FieldType.int)) ∈ gTb := gT_5 76 rfl rfl
theorem gw_1037 : (Jvm.Cond.methodLink "LogDiskLaw" (109 : Nat) ({ cls := "LogDiskModel", name := "sync", desc := "()Z" } : Jvm.MethodName)) ∈ gTb := gT_5 77 rfl rfl
theorem gw_1038 : (Jvm.Cond.instanceMethod ({ cls := "LogDiskModel", name := "sync", desc := "()Z" } : Jvm.MethodName)) ∈ gTb := gT_5 78 rfl rfl
theorem gw_1039 : (Jvm.Cond.selects "LogDiskModel" ({ cls := "LogDiskModel", name := "sync", desc := "()Z" } : Jvm.MethodName) ({ cls := "LogDiskModel", name := "sync", desc := "()Z" } : Jvm.MethodName)) ∈ gTb := gT_5 79 rfl rfl
theorem gw_1040 : (Jvm.Cond.code ({ cls := "LogDiskModel", name := "sync", desc := "()Z" } : Jvm.MethodName) prog_12_method_36_code (3 : Nat) (Option.some Jvm.ClassFile.FieldType.boolean)) ∈ gTb := gT_5 80 rfl rfl
theorem gw_1041 : (Jvm.Cond.methodLink "LogDiskLaw" (113 : Nat) ({ cls := "LogDiskModel", name := "keep", desc := "(II)V" } : Jvm.MethodName)) ∈ gTb := gT_5 81 rfl rfl
theorem gw_1042 : (Jvm.Cond.instanceMethod ({ cls := "LogDiskModel", name := "keep", desc := "(II)V" } : Jvm.MethodName)) ∈ gTb := gT_5 82 rfl rfl
theorem gw_1043 : (Jvm.Cond.selects "LogDiskModel" ({ cls := "LogDiskModel", name := "keep", desc := "(II)V" } : Jvm.MethodName) ({ cls := "LogDiskModel", name := "keep", desc := "(II)V" } : Jvm.MethodName)) ∈ gTb := gT_5 83 rfl rfl
theorem gw_1044 : (Jvm.Cond.code ({ cls := "LogDiskModel", name := "keep", desc := "(II)V" } : Jvm.MethodName) prog_12_method_37_code (3 : Nat) (Option.none : Option Jvm.ClassFile.FieldType)) ∈ gTb := gT_5 84 rfl rfl
theorem gw_1045 : (Jvm.Cond.methodLink "LogDiskLaw" (118 : Nat) ({ cls := "LogDiskModel", name := "crash", desc := "(J)I" } : Jvm.MethodName)) ∈ gTb := gT_5 85 rfl rfl
theorem gw_1046 : (Jvm.Cond.instanceMethod ({ cls := "LogDiskModel", name := "crash", desc := "(J)I" } : Jvm.MethodName)) ∈ gTb := gT_5 86 rfl rfl
theorem gw_1047 : (Jvm.Cond.selects "LogDiskModel" ({ cls := "LogDiskModel", name := "crash", desc := "(J)I" } : Jvm.MethodName) ({ cls := "LogDiskModel", name := "crash", desc := "(J)I" } : Jvm.MethodName)) ∈ gTb := gT_5 87 rfl rfl
theorem gw_1048 : (Jvm.Cond.code ({ cls := "LogDiskModel", name := "crash", desc := "(J)I" } : Jvm.MethodName) prog_12_method_46_code (9 : Nat) (Option.some Jvm.ClassFile.FieldType.int)) ∈ gTb := gT_5 88 rfl rfl
theorem gw_1049 : (Jvm.Cond.constantLong "LogDiskModel" (217 : Nat) (6364136223846793005 : Int64)) ∈ gTb := gT_5 89 rfl rfl
theorem gw_1050 : (Jvm.Cond.constantLong "LogDiskModel" (219 : Nat) (1442695040888963407 : Int64)) ∈ gTb := gT_5 90 rfl rfl
theorem gw_1051 : (Jvm.Cond.constantLong "LogDiskModel" (221 : Nat) (1048575 : Int64)) ∈ gTb := gT_5 91 rfl rfl
theorem gw_1052 : (Jvm.Cond.constantLong "LogDiskModel" (223 : Nat) (2 : Int64)) ∈ gTb := gT_5 92 rfl rfl
theorem gw_1053 : (Jvm.Cond.methodLink "LogDiskModel" (225 : Nat) ({ cls := "LogDiskModel", name := "crashFile", desc := "(II)V" } : Jvm.MethodName)) ∈ gTb := gT_5 93 rfl rfl
theorem gw_1055 : (Jvm.Cond.instanceMethod ({ cls := "LogDiskModel", name := "crashFile", desc := "(II)V" } : Jvm.MethodName)) ∈ gTb := gT_5 95 rfl rfl
theorem gw_1056 : (Jvm.Cond.code ({ cls := "LogDiskModel", name := "crashFile", desc := "(II)V" } : Jvm.MethodName) prog_12_method_38_code (3 : Nat) (Option.none : Option Jvm.ClassFile.FieldType)) ∈ gTb := gT_5 96 rfl rfl
theorem gw_1057 : (Jvm.Cond.methodLink "LogDiskModel" (228 : Nat) ({ cls := "LogDiskModel", name := "findSlots", desc := "()V" } : Jvm.MethodName)) ∈ gTb := gT_5 97 rfl rfl
theorem gw_1059 : (Jvm.Cond.instanceMethod ({ cls := "LogDiskModel", name := "findSlots", desc := "()V" } : Jvm.MethodName)) ∈ gTb := gT_5 99 rfl rfl
theorem gw_1060 : (Jvm.Cond.code ({ cls := "LogDiskModel", name := "findSlots", desc := "()V" } : Jvm.MethodName) prog_12_method_40_code (3 : Nat) (Option.none : Option Jvm.ClassFile.FieldType)) ∈ gTb := gT_5 100 rfl rfl
theorem gw_1061 : (Jvm.Cond.methodLink "LogDiskModel" (210 : Nat) ({ cls := "LogDiskModel", name := "whole", desc := "(I)I" } : Jvm.MethodName)) ∈ gTb := gT_5 101 rfl rfl
theorem gw_1063 : (Jvm.Cond.instanceMethod ({ cls := "LogDiskModel", name := "whole", desc := "(I)I" } : Jvm.MethodName)) ∈ gTb := gT_5 103 rfl rfl
theorem gw_1064 : (Jvm.Cond.code ({ cls := "LogDiskModel", name := "whole", desc := "(I)I" } : Jvm.MethodName) prog_12_method_39_code (5 : Nat) (Option.some Jvm.ClassFile.FieldType.int)) ∈ gTb := gT_5 104 rfl rfl
theorem gw_1065 : (Jvm.Cond.methodLink "LogDiskModel" (231 : Nat) ({ cls := "LogDiskModel", name := "findSnapshot", desc := "()V" } : Jvm.MethodName)) ∈ gTb := gT_5 105 rfl rfl
theorem gw_1067 : (Jvm.Cond.instanceMethod ({ cls := "LogDiskModel", name := "findSnapshot", desc := "()V" } : Jvm.MethodName)) ∈ gTb := gT_5 107 rfl rfl
theorem gw_1068 : (Jvm.Cond.code ({ cls := "LogDiskModel", name := "findSnapshot", desc := "()V" } : Jvm.MethodName) prog_12_method_41_code (3 : Nat) (Option.none : Option Jvm.ClassFile.FieldType)) ∈ gTb := gT_5 108 rfl rfl
theorem gw_1069 : (Jvm.Cond.methodLink "LogDiskModel" (234 : Nat) ({ cls := "LogDiskModel", name := "firstSegment", desc := "()I" } : Jvm.MethodName)) ∈ gTb := gT_5 109 rfl rfl
theorem gw_1071 : (Jvm.Cond.instanceMethod ({ cls := "LogDiskModel", name := "firstSegment", desc := "()I" } : Jvm.MethodName)) ∈ gTb := gT_5 111 rfl rfl
theorem gw_1072 : (Jvm.Cond.code ({ cls := "LogDiskModel", name := "firstSegment", desc := "()I" } : Jvm.MethodName) prog_12_method_42_code (3 : Nat) (Option.some Jvm.ClassFile.FieldType.int)) ∈ gTb := gT_5 112 rfl rfl
theorem gw_1073 : (Jvm.Cond.methodLink "LogDiskModel" (237 : Nat) ({ cls := "LogDiskModel", name := "join", desc := "(I)V" } : Jvm.MethodName)) ∈ gTb := gT_5 113 rfl rfl
theorem gw_1075 : (Jvm.Cond.instanceMethod ({ cls := "LogDiskModel", name := "join", desc := "(I)V" } : Jvm.MethodName)) ∈ gTb := gT_5 115 rfl rfl
theorem gw_1076 : (Jvm.Cond.code ({ cls := "LogDiskModel", name := "join", desc := "(I)V" } : Jvm.MethodName) prog_12_method_43_code (6 : Nat) (Option.none : Option Jvm.ClassFile.FieldType)) ∈ gTb := gT_5 116 rfl rfl
theorem gw_1077 : (Jvm.Cond.methodLink "LogDiskModel" (240 : Nat) ({ cls := "LogDiskModel", name := "nextSegment", desc := "()I" } : Jvm.MethodName)) ∈ gTb := gT_5 117 rfl rfl
theorem gw_1079 : (Jvm.Cond.instanceMethod ({ cls := "LogDiskModel", name := "nextSegment", desc := "()I" } : Jvm.MethodName)) ∈ gTb := gT_5 119 rfl rfl
theorem gw_1080 : (Jvm.Cond.code ({ cls := "LogDiskModel", name := "nextSegment", desc := "()I" } : Jvm.MethodName) prog_12_method_45_code (2 : Nat) (Option.some Jvm.ClassFile.FieldType.int)) ∈ gTb := gT_5 120 rfl rfl
theorem gw_1081 : (Jvm.Cond.methodLink "LogDiskModel" (213 : Nat) ({ cls := "LogDiskModel", name := "isJoined", desc := "(I)Z" } : Jvm.MethodName)) ∈ gTb := gT_5 121 rfl rfl
theorem gw_1083 : (Jvm.Cond.instanceMethod ({ cls := "LogDiskModel", name := "isJoined", desc := "(I)Z" } : Jvm.MethodName)) ∈ gTb := gT_5 123 rfl rfl
theorem gw_1084 : (Jvm.Cond.code ({ cls := "LogDiskModel", name := "isJoined", desc := "(I)Z" } : Jvm.MethodName) prog_12_method_44_code (4 : Nat) (Option.some Jvm.ClassFile.FieldType.boolean)) ∈ gTb := gT_5 124 rfl rfl
theorem gw_1085 : (Jvm.Cond.methodLink "LogDiskLaw" (121 : Nat) ({ cls := "LogDiskModel", name := "state", desc := "(I)I" } : Jvm.MethodName)) ∈ gTb := gT_5 125 rfl rfl
theorem gw_1086 : (Jvm.Cond.instanceMethod ({ cls := "LogDiskModel", name := "state", desc := "(I)I" } : Jvm.MethodName)) ∈ gTb := gT_5 126 rfl rfl
theorem gw_1087 : (Jvm.Cond.selects "LogDiskModel" ({ cls := "LogDiskModel", name := "state", desc := "(I)I" } : Jvm.MethodName) ({ cls := "LogDiskModel", name := "state", desc := "(I)I" } : Jvm.MethodName)) ∈ gTb := gT_5 127 rfl rfl
theorem gw_1088 : (Jvm.Cond.code ({ cls := "LogDiskModel", name := "state", desc := "(I)I" } : Jvm.MethodName) prog_12_method_47_code (2 : Nat) (Option.some Jvm.ClassFile.FieldType.int)) ∈ gTb := gT_5 128 rfl rfl
theorem gw_1089 : (Jvm.Cond.methodLink "LogDiskLaw" (124 : Nat) ({ cls := "LogDiskModel", name := "entry", desc := "(II)I" } : Jvm.MethodName)) ∈ gTb := gT_5 129 rfl rfl
theorem gw_1090 : (Jvm.Cond.instanceMethod ({ cls := "LogDiskModel", name := "entry", desc := "(II)I" } : Jvm.MethodName)) ∈ gTb := gT_5 130 rfl rfl
theorem gw_1091 : (Jvm.Cond.selects "LogDiskModel" ({ cls := "LogDiskModel", name := "entry", desc := "(II)I" } : Jvm.MethodName) ({ cls := "LogDiskModel", name := "entry", desc := "(II)I" } : Jvm.MethodName)) ∈ gTb := gT_5 131 rfl rfl
theorem gw_1092 : (Jvm.Cond.code ({ cls := "LogDiskModel", name := "entry", desc := "(II)I" } : Jvm.MethodName) prog_12_method_49_code (5 : Nat) (Option.some Jvm.ClassFile.FieldType.int)) ∈ gTb := gT_5 132 rfl rfl
theorem gw_1093 : (Jvm.Cond.methodLink "LogDiskModel" (243 : Nat) ({ cls := "LogDiskModel", name := "fileOf", desc := "(I)I" } : Jvm.MethodName)) ∈ gTb := gT_5 133 rfl rfl
theorem gw_1095 : (Jvm.Cond.instanceMethod ({ cls := "LogDiskModel", name := "fileOf", desc := "(I)I" } : Jvm.MethodName)) ∈ gTb := gT_5 135 rfl rfl
theorem gw_1096 : (Jvm.Cond.code ({ cls := "LogDiskModel", name := "fileOf", desc := "(I)I" } : Jvm.MethodName) prog_12_method_48_code (4 : Nat) (Option.some Jvm.ClassFile.FieldType.int)) ∈ gTb := gT_5 136 rfl rfl
theorem gw_1097 : (Jvm.Cond.methodLink "LogDiskLaw" (127 : Nat) ({ cls := "LogDiskModel", name := "contentAt", desc := "(II)I" } : Jvm.MethodName)) ∈ gTb := gT_5 137 rfl rfl
theorem gw_1098 : (Jvm.Cond.instanceMethod ({ cls := "LogDiskModel", name := "contentAt", desc := "(II)I" } : Jvm.MethodName)) ∈ gTb := gT_5 138 rfl rfl
theorem gw_1099 : (Jvm.Cond.selects "LogDiskModel" ({ cls := "LogDiskModel", name := "contentAt", desc := "(II)I" } : Jvm.MethodName) ({ cls := "LogDiskModel", name := "contentAt", desc := "(II)I" } : Jvm.MethodName)) ∈ gTb := gT_5 139 rfl rfl
theorem gw_1100 : (Jvm.Cond.code ({ cls := "LogDiskModel", name := "contentAt", desc := "(II)I" } : Jvm.MethodName) prog_12_method_50_code (4 : Nat) (Option.some Jvm.ClassFile.FieldType.int)) ∈ gTb := gT_5 140 rfl rfl
theorem gw_1101 : (Jvm.Cond.methodLink "LogDiskLaw" (130 : Nat) ({ cls := "LogDiskModel", name := "snapshotAt", desc := "(I)I" } : Jvm.MethodName)) ∈ gTb := gT_5 141 rfl rfl
theorem gw_1102 : (Jvm.Cond.instanceMethod ({ cls := "LogDiskModel", name := "snapshotAt", desc := "(I)I" } : Jvm.MethodName)) ∈ gTb := gT_5 142 rfl rfl
theorem gw_1103 : (Jvm.Cond.selects "LogDiskModel" ({ cls := "LogDiskModel", name := "snapshotAt", desc := "(I)I" } : Jvm.MethodName) ({ cls := "LogDiskModel", name := "snapshotAt", desc := "(I)I" } : Jvm.MethodName)) ∈ gTb := gT_5 143 rfl rfl
theorem gw_1104 : (Jvm.Cond.code ({ cls := "LogDiskModel", name := "snapshotAt", desc := "(I)I" } : Jvm.MethodName) prog_12_method_51_code (2 : Nat) (Option.some Jvm.ClassFile.FieldType.int)) ∈ gTb := gT_5 144 rfl rfl
theorem gw_1105 : (Jvm.Cond.methodLink "LogDiskLaw" (133 : Nat) ({ cls := "LogDiskModel", name := "segment", desc := "(II)I" } : Jvm.MethodName)) ∈ gTb := gT_5 145 rfl rfl
theorem gw_1106 : (Jvm.Cond.instanceMethod ({ cls := "LogDiskModel", name := "segment", desc := "(II)I" } : Jvm.MethodName)) ∈ gTb := gT_5 146 rfl rfl
theorem gw_1107 : (Jvm.Cond.selects "LogDiskModel" ({ cls := "LogDiskModel", name := "segment", desc := "(II)I" } : Jvm.MethodName) ({ cls := "LogDiskModel", name := "segment", desc := "(II)I" } : Jvm.MethodName)) ∈ gTb := gT_5 147 rfl rfl
theorem gw_1108 : (Jvm.Cond.code ({ cls := "LogDiskModel", name := "segment", desc := "(II)I" } : Jvm.MethodName) prog_12_method_52_code (3 : Nat) (Option.some Jvm.ClassFile.FieldType.int)) ∈ gTb := gT_5 148 rfl rfl
theorem gw_1109 : (Jvm.Cond.methodLink "LogDiskLaw" (136 : Nat) ({ cls := "LogDiskModel", name := "file", desc := "(II)I" } : Jvm.MethodName)) ∈ gTb := gT_5 149 rfl rfl
theorem gw_1110 : (Jvm.Cond.instanceMethod ({ cls := "LogDiskModel", name := "file", desc := "(II)I" } : Jvm.MethodName)) ∈ gTb := gT_5 150 rfl rfl
theorem gw_1111 : (Jvm.Cond.selects "LogDiskModel" ({ cls := "LogDiskModel", name := "file", desc := "(II)I" } : Jvm.MethodName) ({ cls := "LogDiskModel", name := "file", desc := "(II)I" } : Jvm.MethodName)) ∈ gTb := gT_5 151 rfl rfl
theorem gw_1112 : (Jvm.Cond.code ({ cls := "LogDiskModel", name := "file", desc := "(II)I" } : Jvm.MethodName) prog_12_method_53_code (3 : Nat) (Option.some Jvm.ClassFile.FieldType.int)) ∈ gTb := gT_5 152 rfl rfl
theorem gw_1113 : (Jvm.Cond.methodLink "LogDiskLaw" (139 : Nat) ({ cls := "LogDiskModel", name := "byteAt", desc := "(II)I" } : Jvm.MethodName)) ∈ gTb := gT_5 153 rfl rfl
theorem gw_1114 : (Jvm.Cond.instanceMethod ({ cls := "LogDiskModel", name := "byteAt", desc := "(II)I" } : Jvm.MethodName)) ∈ gTb := gT_5 154 rfl rfl
theorem gw_1115 : (Jvm.Cond.selects "LogDiskModel" ({ cls := "LogDiskModel", name := "byteAt", desc := "(II)I" } : Jvm.MethodName) ({ cls := "LogDiskModel", name := "byteAt", desc := "(II)I" } : Jvm.MethodName)) ∈ gTb := gT_5 155 rfl rfl
theorem gw_1116 : (Jvm.Cond.code ({ cls := "LogDiskModel", name := "byteAt", desc := "(II)I" } : Jvm.MethodName) prog_12_method_54_code (5 : Nat) (Option.some Jvm.ClassFile.FieldType.int)) ∈ gTb := gT_5 156 rfl rfl
theorem gw_1117 : (Jvm.Cond.methodLink "LogDiskModel" (246 : Nat) ({ cls := "LogDiskModel", name := "frameAt", desc := "(II)I" } : Jvm.MethodName)) ∈ gTb := gT_5 157 rfl rfl
theorem gw_1119 : (Jvm.Cond.instanceMethod ({ cls := "LogDiskModel", name := "frameAt", desc := "(II)I" } : Jvm.MethodName)) ∈ gTb := gT_5 159 rfl rfl
theorem gw_1120 : (Jvm.Cond.code ({ cls := "LogDiskModel", name := "frameAt", desc := "(II)I" } : Jvm.MethodName) prog_12_method_12_code (3 : Nat) (Option.some Jvm.ClassFile.FieldType.int)) ∈ gTb := gT_5 160 rfl rfl
theorem gw_1121 : (Jvm.Cond.methodLink "LogDiskModel" (102 : Nat) ({ cls := "LogDiskModel", name := "sumOf", desc := "(I)I" } : Jvm.MethodName)) ∈ gTb := gT_5 161 rfl rfl
theorem gw_1123 : (Jvm.Cond.instanceMethod ({ cls := "LogDiskModel", name := "sumOf", desc := "(I)I" } : Jvm.MethodName)) ∈ gTb := gT_5 163 rfl rfl
theorem gw_1124 : (Jvm.Cond.code ({ cls := "LogDiskModel", name := "sumOf", desc := "(I)I" } : Jvm.MethodName) prog_12_method_11_code (5 : Nat) (Option.some Jvm.ClassFile.FieldType.int)) ∈ gTb := gT_5 164 rfl rfl
theorem gw_1125 : (Jvm.Cond.methodLink "LogDiskModel" (97 : Nat) ({ cls := "LogDiskModel", name := "payloadAt", desc := "(II)I" } : Jvm.MethodName)) ∈ gTb := gT_5 165 rfl rfl
theorem gw_1127 : (Jvm.Cond.instanceMethod ({ cls := "LogDiskModel", name := "payloadAt", desc := "(II)I" } : Jvm.MethodName)) ∈ gTb := gT_5 167 rfl rfl
theorem gw_1128 : (Jvm.Cond.code ({ cls := "LogDiskModel", name := "payloadAt", desc := "(II)I" } : Jvm.MethodName) prog_12_method_10_code (3 : Nat) (Option.some Jvm.ClassFile.FieldType.int)) ∈ gTb := gT_5 168 rfl rfl
theorem gw_1129 : (Jvm.Cond.constant "LogDiskModel" (101 : Nat) (-306674912 : Int32)) ∈ gTb := gT_5 169 rfl rfl
theorem gw_1130 : (Jvm.Cond.constantLong "LogDiskLaw" (77 : Nat) (4294967295 : Int64)) ∈ gTb := gT_5 170 rfl rfl
theorem gw_1131 : (Jvm.Cond.arrayClass Jvm.ClassFile.FieldType.long) ∈ gTb := gT_5 171 rfl rfl
theorem gw_1132 : (Jvm.Cond.sameMethod "java/lang/Throwable" "java/lang/Throwable" "fillInStackTrace" "(I)Ljava/lang/Throwable;") ∈ gTb := gT_5 172 rfl rfl
end
section
/-! Classes: fields in the order of the slots. -/
def T_Content : u_T := fun k => match k with
  | 0 => ("LogDisk$Content", "row", "[I", true)
  | 1 => ("LogDisk$Content", "there", "Z", false)
  | _ => ("LogDisk$Content", "size", "I", false)
def ty_Content : Nat → FieldType := fun k => match k with
  | 0 => .array .int
  | 1 => .boolean
  | _ => .int
theorem nm_Content : ∀ a, a < 3 → ∀ b, b < 3 → a ≠ b → (T_Content a).2.1 ≠ (T_Content b).2.1 := by decide +kernel
theorem tyok_Content : ∀ k, k < 3 → parseFieldDescriptor (T_Content k).2.2.1 = some (ty_Content k) := by decide +kernel
theorem in_Content : ∀ w ∈ u_ws "LogDisk$Content" T_Content 3, w ∈ gTb := by
  intro w hw
  obtain ⟨k, hk, rfl⟩ := List.mem_map.mp hw
  have hk := List.mem_range.mp hk
  match k, hk with
  | 0, _ => exact gw_206
  | 1, _ => exact gw_208
  | 2, _ => exact gw_210
  | k + 3, h => omega
def T_DiskFile : u_T := fun k => match k with
  | 0 => ("LogDisk$DiskFile", "pages", "LLogDisk$Pages;", true)
  | 1 => ("LogDisk$DiskFile", "now", "LLogDisk$Content;", true)
  | 2 => ("LogDisk$DiskFile", "synced", "LLogDisk$Content;", true)
  | _ => ("LogDisk$DiskFile", "low", "I", false)
def ty_DiskFile : Nat → FieldType := fun k => match k with
  | 0 => .object "LogDisk$Pages"
  | 1 => .object "LogDisk$Content"
  | 2 => .object "LogDisk$Content"
  | _ => .int
theorem nm_DiskFile : ∀ a, a < 4 → ∀ b, b < 4 → a ≠ b → (T_DiskFile a).2.1 ≠ (T_DiskFile b).2.1 := by decide +kernel
theorem tyok_DiskFile : ∀ k, k < 4 → parseFieldDescriptor (T_DiskFile k).2.2.1 = some (ty_DiskFile k) := by decide +kernel
theorem in_DiskFile : ∀ w ∈ u_ws "LogDisk$DiskFile" T_DiskFile 4, w ∈ gTb := by
  intro w hw
  obtain ⟨k, hk, rfl⟩ := List.mem_map.mp hw
  have hk := List.mem_range.mp hk
  match k, hk with
  | 0, _ => exact gw_220
  | 1, _ => exact gw_222
  | 2, _ => exact gw_224
  | 3, _ => exact gw_226
  | k + 4, h => omega
def T_Entries : u_T := fun k => match k with
  | 0 => ("LogDisk$Entries", "file", "[I", true)
  | 1 => ("LogDisk$Entries", "start", "[I", true)
  | 2 => ("LogDisk$Entries", "term", "[I", true)
  | 3 => ("LogDisk$Entries", "kind", "[I", true)
  | _ => ("LogDisk$Entries", "bytes", "[I", true)
def ty_Entries : Nat → FieldType := fun k => match k with
  | 0 => .array .int
  | 1 => .array .int
  | 2 => .array .int
  | 3 => .array .int
  | _ => .array .int
theorem nm_Entries : ∀ a, a < 5 → ∀ b, b < 5 → a ≠ b → (T_Entries a).2.1 ≠ (T_Entries b).2.1 := by decide +kernel
theorem tyok_Entries : ∀ k, k < 5 → parseFieldDescriptor (T_Entries k).2.2.1 = some (ty_Entries k) := by decide +kernel
theorem in_Entries : ∀ w ∈ u_ws "LogDisk$Entries" T_Entries 5, w ∈ gTb := by
  intro w hw
  obtain ⟨k, hk, rfl⟩ := List.mem_map.mp hw
  have hk := List.mem_range.mp hk
  match k, hk with
  | 0, _ => exact gw_149
  | 1, _ => exact gw_151
  | 2, _ => exact gw_153
  | 3, _ => exact gw_155
  | 4, _ => exact gw_157
  | k + 5, h => omega
def T_Frame : u_T := fun k => match k with
  | 0 => ("LogDisk$Frame", "bytes", "[B", true)
  | _ => ("LogDisk$Frame", "size", "I", false)
def ty_Frame : Nat → FieldType := fun k => match k with
  | 0 => .array .byte
  | _ => .int
theorem nm_Frame : ∀ a, a < 2 → ∀ b, b < 2 → a ≠ b → (T_Frame a).2.1 ≠ (T_Frame b).2.1 := by decide +kernel
theorem tyok_Frame : ∀ k, k < 2 → parseFieldDescriptor (T_Frame k).2.2.1 = some (ty_Frame k) := by decide +kernel
theorem in_Frame : ∀ w ∈ u_ws "LogDisk$Frame" T_Frame 2, w ∈ gTb := by
  intro w hw
  obtain ⟨k, hk, rfl⟩ := List.mem_map.mp hw
  have hk := List.mem_range.mp hk
  match k, hk with
  | 0, _ => exact gw_59
  | 1, _ => exact gw_61
  | k + 2, h => omega
def T_Pages : u_T := fun k => match k with
  | 0 => ("LogDisk$Pages", "bytes", "[B", true)
  | 1 => ("LogDisk$Pages", "owners", "[I", true)
  | 2 => ("LogDisk$Pages", "unused", "[I", true)
  | _ => ("LogDisk$Pages", "unusedCount", "I", false)
def ty_Pages : Nat → FieldType := fun k => match k with
  | 0 => .array .byte
  | 1 => .array .int
  | 2 => .array .int
  | _ => .int
theorem nm_Pages : ∀ a, a < 4 → ∀ b, b < 4 → a ≠ b → (T_Pages a).2.1 ≠ (T_Pages b).2.1 := by decide +kernel
theorem tyok_Pages : ∀ k, k < 4 → parseFieldDescriptor (T_Pages k).2.2.1 = some (ty_Pages k) := by decide +kernel
theorem in_Pages : ∀ w ∈ u_ws "LogDisk$Pages" T_Pages 4, w ∈ gTb := by
  intro w hw
  obtain ⟨k, hk, rfl⟩ := List.mem_map.mp hw
  have hk := List.mem_range.mp hk
  match k, hk with
  | 0, _ => exact gw_178
  | 1, _ => exact gw_180
  | 2, _ => exact gw_182
  | 3, _ => exact gw_184
  | k + 4, h => omega
def T_Segments : u_T := fun k => match k with
  | 0 => ("LogDisk$Segments", "file", "[I", true)
  | 1 => ("LogDisk$Segments", "first", "[I", true)
  | _ => ("LogDisk$Segments", "count", "I", false)
def ty_Segments : Nat → FieldType := fun k => match k with
  | 0 => .array .int
  | 1 => .array .int
  | _ => .int
theorem nm_Segments : ∀ a, a < 3 → ∀ b, b < 3 → a ≠ b → (T_Segments a).2.1 ≠ (T_Segments b).2.1 := by decide +kernel
theorem tyok_Segments : ∀ k, k < 3 → parseFieldDescriptor (T_Segments k).2.2.1 = some (ty_Segments k) := by decide +kernel
theorem in_Segments : ∀ w ∈ u_ws "LogDisk$Segments" T_Segments 3, w ∈ gTb := by
  intro w hw
  obtain ⟨k, hk, rfl⟩ := List.mem_map.mp hw
  have hk := List.mem_range.mp hk
  match k, hk with
  | 0, _ => exact gw_126
  | 1, _ => exact gw_128
  | 2, _ => exact gw_130
  | k + 3, h => omega
def T_Snapshot : u_T := fun k => match k with
  | 0 => ("LogDisk$Snapshot", "file", "I", false)
  | 1 => ("LogDisk$Snapshot", "base", "I", false)
  | 2 => ("LogDisk$Snapshot", "term", "I", false)
  | _ => ("LogDisk$Snapshot", "code", "I", false)
def ty_Snapshot : Nat → FieldType := fun k => match k with
  | 0 => .int
  | 1 => .int
  | 2 => .int
  | _ => .int
theorem nm_Snapshot : ∀ a, a < 4 → ∀ b, b < 4 → a ≠ b → (T_Snapshot a).2.1 ≠ (T_Snapshot b).2.1 := by decide +kernel
theorem tyok_Snapshot : ∀ k, k < 4 → parseFieldDescriptor (T_Snapshot k).2.2.1 = some (ty_Snapshot k) := by decide +kernel
theorem in_Snapshot : ∀ w ∈ u_ws "LogDisk$Snapshot" T_Snapshot 4, w ∈ gTb := by
  intro w hw
  obtain ⟨k, hk, rfl⟩ := List.mem_map.mp hw
  have hk := List.mem_range.mp hk
  match k, hk with
  | 0, _ => exact gw_105
  | 1, _ => exact gw_107
  | 2, _ => exact gw_109
  | 3, _ => exact gw_111
  | k + 4, h => omega
def T_Tape : u_T := fun k => match k with
  | 0 => ("LogDisk$Tape", "bytes", "[B", true)
  | _ => ("LogDisk$Tape", "size", "I", false)
def ty_Tape : Nat → FieldType := fun k => match k with
  | 0 => .array .byte
  | _ => .int
theorem nm_Tape : ∀ a, a < 2 → ∀ b, b < 2 → a ≠ b → (T_Tape a).2.1 ≠ (T_Tape b).2.1 := by decide +kernel
theorem tyok_Tape : ∀ k, k < 2 → parseFieldDescriptor (T_Tape k).2.2.1 = some (ty_Tape k) := by decide +kernel
theorem in_Tape : ∀ w ∈ u_ws "LogDisk$Tape" T_Tape 2, w ∈ gTb := by
  intro w hw
  obtain ⟨k, hk, rfl⟩ := List.mem_map.mp hw
  have hk := List.mem_range.mp hk
  match k, hk with
  | 0, _ => exact gw_42
  | 1, _ => exact gw_44
  | k + 2, h => omega
def T_Vote : u_T := fun k => match k with
  | 0 => ("LogDisk$Vote", "term", "I", false)
  | 1 => ("LogDisk$Vote", "voted", "I", false)
  | 2 => ("LogDisk$Vote", "times", "J", false)
  | 3 => ("LogDisk$Vote", "file", "I", false)
  | _ => ("LogDisk$Vote", "fresh", "Z", false)
def ty_Vote : Nat → FieldType := fun k => match k with
  | 0 => .int
  | 1 => .int
  | 2 => .long
  | 3 => .int
  | _ => .boolean
theorem nm_Vote : ∀ a, a < 5 → ∀ b, b < 5 → a ≠ b → (T_Vote a).2.1 ≠ (T_Vote b).2.1 := by decide +kernel
theorem tyok_Vote : ∀ k, k < 5 → parseFieldDescriptor (T_Vote k).2.2.1 = some (ty_Vote k) := by decide +kernel
theorem in_Vote : ∀ w ∈ u_ws "LogDisk$Vote" T_Vote 5, w ∈ gTb := by
  intro w hw
  obtain ⟨k, hk, rfl⟩ := List.mem_map.mp hw
  have hk := List.mem_range.mp hk
  match k, hk with
  | 0, _ => exact gw_80
  | 1, _ => exact gw_82
  | 2, _ => exact gw_84
  | 3, _ => exact gw_86
  | 4, _ => exact gw_88
  | k + 5, h => omega
def T_LogDisk : u_T := fun k => match k with
  | 0 => ("LogDisk", "pages", "LLogDisk$Pages;", true)
  | 1 => ("LogDisk", "files", "[LLogDisk$DiskFile;", true)
  | 2 => ("LogDisk", "keeps", "[I", true)
  | 3 => ("LogDisk", "tape", "LLogDisk$Tape;", true)
  | 4 => ("LogDisk", "frame", "LLogDisk$Frame;", true)
  | 5 => ("LogDisk", "vote", "LLogDisk$Vote;", true)
  | 6 => ("LogDisk", "snapshot", "LLogDisk$Snapshot;", true)
  | 7 => ("LogDisk", "segments", "LLogDisk$Segments;", true)
  | 8 => ("LogDisk", "entries", "LLogDisk$Entries;", true)
  | 9 => ("LogDisk", "firstCode", "I", true)
  | 10 => ("LogDisk", "last", "I", false)
  | _ => ("LogDisk", "dirty", "Z", false)
def ty_LogDisk : Nat → FieldType := fun k => match k with
  | 0 => .object "LogDisk$Pages"
  | 1 => .array (.object "LogDisk$DiskFile")
  | 2 => .array .int
  | 3 => .object "LogDisk$Tape"
  | 4 => .object "LogDisk$Frame"
  | 5 => .object "LogDisk$Vote"
  | 6 => .object "LogDisk$Snapshot"
  | 7 => .object "LogDisk$Segments"
  | 8 => .object "LogDisk$Entries"
  | 9 => .int
  | 10 => .int
  | _ => .boolean
theorem nm_LogDisk : ∀ a, a < 12 → ∀ b, b < 12 → a ≠ b → (T_LogDisk a).2.1 ≠ (T_LogDisk b).2.1 := by decide +kernel
theorem tyok_LogDisk : ∀ k, k < 12 → parseFieldDescriptor (T_LogDisk k).2.2.1 = some (ty_LogDisk k) := by decide +kernel
theorem in_LogDisk : ∀ w ∈ u_ws "LogDisk" T_LogDisk 12, w ∈ gTb := by
  intro w hw
  obtain ⟨k, hk, rfl⟩ := List.mem_map.mp hw
  have hk := List.mem_range.mp hk
  match k, hk with
  | 0, _ => exact gw_241
  | 1, _ => exact gw_243
  | 2, _ => exact gw_245
  | 3, _ => exact gw_247
  | 4, _ => exact gw_249
  | 5, _ => exact gw_251
  | 6, _ => exact gw_253
  | 7, _ => exact gw_255
  | 8, _ => exact gw_257
  | 9, _ => exact gw_259
  | 10, _ => exact gw_261
  | 11, _ => exact gw_263
  | k + 12, h => omega
def T_Mo : u_T := fun k => match k with
  | 0 => ("LogDiskModel", "thrown", "I", false)
  | 1 => ("LogDiskModel", "limit", "I", true)
  | 2 => ("LogDiskModel", "firstCode", "I", true)
  | 3 => ("LogDiskModel", "frames", "I", false)
  | 4 => ("LogDiskModel", "sorts", "[I", true)
  | 5 => ("LogDiskModel", "as", "[I", true)
  | 6 => ("LogDiskModel", "bs", "[I", true)
  | 7 => ("LogDiskModel", "cs", "[I", true)
  | 8 => ("LogDiskModel", "froms", "[I", true)
  | 9 => ("LogDiskModel", "lengths", "[I", true)
  | 10 => ("LogDiskModel", "bytes", "[I", true)
  | 11 => ("LogDiskModel", "used", "I", false)
  | 12 => ("LogDiskModel", "rows", "[I", true)
  | 13 => ("LogDiskModel", "counts", "[I", true)
  | 14 => ("LogDiskModel", "sizes", "[I", true)
  | 15 => ("LogDiskModel", "there", "[Z", true)
  | 16 => ("LogDiskModel", "lows", "[I", true)
  | 17 => ("LogDiskModel", "shared", "[I", true)
  | 18 => ("LogDiskModel", "keeps", "[I", true)
  | 19 => ("LogDiskModel", "term", "I", false)
  | 20 => ("LogDiskModel", "voted", "I", false)
  | 21 => ("LogDiskModel", "times", "I", false)
  | 22 => ("LogDiskModel", "slot", "I", false)
  | 23 => ("LogDiskModel", "base", "I", false)
  | 24 => ("LogDiskModel", "baseTerm", "I", false)
  | 25 => ("LogDiskModel", "code", "I", false)
  | 26 => ("LogDiskModel", "snapshot", "I", false)
  | 27 => ("LogDiskModel", "last", "I", false)
  | 28 => ("LogDiskModel", "slotSince", "Z", false)
  | 29 => ("LogDiskModel", "dirty", "Z", false)
  | 30 => ("LogDiskModel", "segments", "I", false)
  | 31 => ("LogDiskModel", "order", "[I", true)
  | 32 => ("LogDiskModel", "entries", "[I", true)
  | 33 => ("LogDiskModel", "tape", "I", false)
  | _ => ("LogDiskModel", "fed", "[I", true)
def ty_Mo : Nat → FieldType := fun k => match k with
  | 0 => .int
  | 1 => .int
  | 2 => .int
  | 3 => .int
  | 4 => .array .int
  | 5 => .array .int
  | 6 => .array .int
  | 7 => .array .int
  | 8 => .array .int
  | 9 => .array .int
  | 10 => .array .int
  | 11 => .int
  | 12 => .array .int
  | 13 => .array .int
  | 14 => .array .int
  | 15 => .array .boolean
  | 16 => .array .int
  | 17 => .array .int
  | 18 => .array .int
  | 19 => .int
  | 20 => .int
  | 21 => .int
  | 22 => .int
  | 23 => .int
  | 24 => .int
  | 25 => .int
  | 26 => .int
  | 27 => .int
  | 28 => .boolean
  | 29 => .boolean
  | 30 => .int
  | 31 => .array .int
  | 32 => .array .int
  | 33 => .int
  | _ => .array .int
theorem nm_Mo : ∀ a, a < 35 → ∀ b, b < 35 → a ≠ b → (T_Mo a).2.1 ≠ (T_Mo b).2.1 := by decide +kernel
theorem tyok_Mo : ∀ k, k < 35 → parseFieldDescriptor (T_Mo k).2.2.1 = some (ty_Mo k) := by decide +kernel
theorem in_Mo : ∀ w ∈ u_ws "LogDiskModel" T_Mo 35, w ∈ gTb := by
  intro w hw
  obtain ⟨k, hk, rfl⟩ := List.mem_map.mp hw
  have hk := List.mem_range.mp hk
  match k, hk with
  | 0, _ => exact gw_842
  | 1, _ => exact gw_844
  | 2, _ => exact gw_846
  | 3, _ => exact gw_848
  | 4, _ => exact gw_850
  | 5, _ => exact gw_852
  | 6, _ => exact gw_854
  | 7, _ => exact gw_856
  | 8, _ => exact gw_858
  | 9, _ => exact gw_860
  | 10, _ => exact gw_862
  | 11, _ => exact gw_864
  | 12, _ => exact gw_866
  | 13, _ => exact gw_868
  | 14, _ => exact gw_870
  | 15, _ => exact gw_872
  | 16, _ => exact gw_874
  | 17, _ => exact gw_876
  | 18, _ => exact gw_878
  | 19, _ => exact gw_880
  | 20, _ => exact gw_882
  | 21, _ => exact gw_884
  | 22, _ => exact gw_886
  | 23, _ => exact gw_888
  | 24, _ => exact gw_890
  | 25, _ => exact gw_892
  | 26, _ => exact gw_894
  | 27, _ => exact gw_896
  | 28, _ => exact gw_898
  | 29, _ => exact gw_900
  | 30, _ => exact gw_902
  | 31, _ => exact gw_904
  | 32, _ => exact gw_906
  | 33, _ => exact gw_908
  | 34, _ => exact gw_910
  | k + 35, h => omega
abbrev gCl : List vw_C := [("LogDisk$Content", T_Content, 3), ("LogDisk$DiskFile", T_DiskFile, 4), ("LogDisk$Entries", T_Entries, 5), ("LogDisk$Frame", T_Frame, 2), ("LogDisk$Pages", T_Pages, 4), ("LogDisk$Segments", T_Segments, 3), ("LogDisk$Snapshot", T_Snapshot, 4), ("LogDisk$Tape", T_Tape, 2), ("LogDisk$Vote", T_Vote, 5), ("LogDisk", T_LogDisk, 12), ("LogDiskModel", T_Mo, 35)]
/-! Methods: code, name, words. -/
abbrev c_LogDisk_init : ByteArray := prog_1_method_1_code
abbrev y_LogDisk_init : MethodName := ⟨"LogDisk", "<init>", "(II)V"⟩
abbrev w_LogDisk_init : List Cond := Cond.code y_LogDisk_init c_LogDisk_init 6 (Option.none : Option Jvm.ClassFile.FieldType) :: gTb
abbrev c_LogDisk_feed : ByteArray := prog_1_method_2_code
abbrev y_LogDisk_feed : MethodName := ⟨"LogDisk", "feed", "(JI)I"⟩
abbrev w_LogDisk_feed : List Cond := Cond.code y_LogDisk_feed c_LogDisk_feed 5 (Option.some Jvm.ClassFile.FieldType.int) :: gTb
abbrev c_LogDisk_save : ByteArray := prog_1_method_3_code
abbrev y_LogDisk_save : MethodName := ⟨"LogDisk", "save", "(II)I"⟩
abbrev w_LogDisk_save : List Cond := Cond.code y_LogDisk_save c_LogDisk_save 4 (Option.some Jvm.ClassFile.FieldType.int) :: gTb
abbrev c_LogDisk_append : ByteArray := prog_1_method_4_code
abbrev y_LogDisk_append : MethodName := ⟨"LogDisk", "append", "(II)I"⟩
abbrev w_LogDisk_append : List Cond := Cond.code y_LogDisk_append c_LogDisk_append 7 (Option.some Jvm.ClassFile.FieldType.int) :: gTb
abbrev c_LogDisk_cutFrom : ByteArray := prog_1_method_5_code
abbrev y_LogDisk_cutFrom : MethodName := ⟨"LogDisk", "cutFrom", "(I)I"⟩
abbrev w_LogDisk_cutFrom : List Cond := Cond.code y_LogDisk_cutFrom c_LogDisk_cutFrom 4 (Option.some Jvm.ClassFile.FieldType.int) :: gTb
abbrev c_LogDisk_compact : ByteArray := prog_1_method_6_code
abbrev y_LogDisk_compact : MethodName := ⟨"LogDisk", "compact", "(II)I"⟩
abbrev w_LogDisk_compact : List Cond := Cond.code y_LogDisk_compact c_LogDisk_compact 5 (Option.some Jvm.ClassFile.FieldType.int) :: gTb
abbrev c_LogDisk_take : ByteArray := prog_1_method_7_code
abbrev y_LogDisk_take : MethodName := ⟨"LogDisk", "take", "(III)I"⟩
abbrev w_LogDisk_take : List Cond := Cond.code y_LogDisk_take c_LogDisk_take 5 (Option.some Jvm.ClassFile.FieldType.int) :: gTb
abbrev c_LogDisk_sync : ByteArray := prog_1_method_8_code
abbrev y_LogDisk_sync : MethodName := ⟨"LogDisk", "sync", "()Z"⟩
abbrev w_LogDisk_sync : List Cond := Cond.code y_LogDisk_sync c_LogDisk_sync 2 (Option.some Jvm.ClassFile.FieldType.boolean) :: gTb
abbrev c_LogDisk_keep : ByteArray := prog_1_method_9_code
abbrev y_LogDisk_keep : MethodName := ⟨"LogDisk", "keep", "(II)V"⟩
abbrev w_LogDisk_keep : List Cond := Cond.code y_LogDisk_keep c_LogDisk_keep 3 (Option.none : Option Jvm.ClassFile.FieldType) :: gTb
abbrev c_LogDisk_crash : ByteArray := prog_1_method_10_code
abbrev y_LogDisk_crash : MethodName := ⟨"LogDisk", "crash", "(J)I"⟩
abbrev w_LogDisk_crash : List Cond := Cond.code y_LogDisk_crash c_LogDisk_crash 3 (Option.some Jvm.ClassFile.FieldType.int) :: gTb
abbrev c_LogDisk_state : ByteArray := prog_1_method_11_code
abbrev y_LogDisk_state : MethodName := ⟨"LogDisk", "state", "(I)I"⟩
abbrev w_LogDisk_state : List Cond := Cond.code y_LogDisk_state c_LogDisk_state 2 (Option.some Jvm.ClassFile.FieldType.int) :: gTb
abbrev c_LogDisk_entry : ByteArray := prog_1_method_12_code
abbrev y_LogDisk_entry : MethodName := ⟨"LogDisk", "entry", "(II)I"⟩
abbrev w_LogDisk_entry : List Cond := Cond.code y_LogDisk_entry c_LogDisk_entry 4 (Option.some Jvm.ClassFile.FieldType.int) :: gTb
abbrev c_LogDisk_contentAt : ByteArray := prog_1_method_13_code
abbrev y_LogDisk_contentAt : MethodName := ⟨"LogDisk", "contentAt", "(II)I"⟩
abbrev w_LogDisk_contentAt : List Cond := Cond.code y_LogDisk_contentAt c_LogDisk_contentAt 4 (Option.some Jvm.ClassFile.FieldType.int) :: gTb
abbrev c_LogDisk_snapshotAt : ByteArray := prog_1_method_14_code
abbrev y_LogDisk_snapshotAt : MethodName := ⟨"LogDisk", "snapshotAt", "(I)I"⟩
abbrev w_LogDisk_snapshotAt : List Cond := Cond.code y_LogDisk_snapshotAt c_LogDisk_snapshotAt 2 (Option.some Jvm.ClassFile.FieldType.int) :: gTb
abbrev c_LogDisk_segment : ByteArray := prog_1_method_15_code
abbrev y_LogDisk_segment : MethodName := ⟨"LogDisk", "segment", "(II)I"⟩
abbrev w_LogDisk_segment : List Cond := Cond.code y_LogDisk_segment c_LogDisk_segment 3 (Option.some Jvm.ClassFile.FieldType.int) :: gTb
abbrev c_LogDisk_file : ByteArray := prog_1_method_16_code
abbrev y_LogDisk_file : MethodName := ⟨"LogDisk", "file", "(II)I"⟩
abbrev w_LogDisk_file : List Cond := Cond.code y_LogDisk_file c_LogDisk_file 4 (Option.some Jvm.ClassFile.FieldType.int) :: gTb
abbrev c_LogDisk_byteAt : ByteArray := prog_1_method_17_code
abbrev y_LogDisk_byteAt : MethodName := ⟨"LogDisk", "byteAt", "(II)I"⟩
abbrev w_LogDisk_byteAt : List Cond := Cond.code y_LogDisk_byteAt c_LogDisk_byteAt 3 (Option.some Jvm.ClassFile.FieldType.int) :: gTb
abbrev c_LogDisk_isFile : ByteArray := prog_1_method_18_code
abbrev y_LogDisk_isFile : MethodName := ⟨"LogDisk", "isFile", "(I)Z"⟩
abbrev w_LogDisk_isFile : List Cond := Cond.code y_LogDisk_isFile c_LogDisk_isFile 1 (Option.some Jvm.ClassFile.FieldType.boolean) :: gTb
abbrev c_LogDisk_isInLog : ByteArray := prog_1_method_19_code
abbrev y_LogDisk_isInLog : MethodName := ⟨"LogDisk", "isInLog", "(I)Z"⟩
abbrev w_LogDisk_isInLog : List Cond := Cond.code y_LogDisk_isInLog c_LogDisk_isInLog 2 (Option.some Jvm.ClassFile.FieldType.boolean) :: gTb
abbrev c_LogDisk_termAt : ByteArray := prog_1_method_20_code
abbrev y_LogDisk_termAt : MethodName := ⟨"LogDisk", "termAt", "(I)I"⟩
abbrev w_LogDisk_termAt : List Cond := Cond.code y_LogDisk_termAt c_LogDisk_termAt 2 (Option.some Jvm.ClassFile.FieldType.int) :: gTb
abbrev c_LogDisk_snapshotBytes : ByteArray := prog_1_method_21_code
abbrev y_LogDisk_snapshotBytes : MethodName := ⟨"LogDisk", "snapshotBytes", "()I"⟩
abbrev w_LogDisk_snapshotBytes : List Cond := Cond.code y_LogDisk_snapshotBytes c_LogDisk_snapshotBytes 1 (Option.some Jvm.ClassFile.FieldType.int) :: gTb
abbrev c_LogDisk_needsNewSegment : ByteArray := prog_1_method_22_code
abbrev y_LogDisk_needsNewSegment : MethodName := ⟨"LogDisk", "needsNewSegment", "()Z"⟩
abbrev w_LogDisk_needsNewSegment : List Cond := Cond.code y_LogDisk_needsNewSegment c_LogDisk_needsNewSegment 1 (Option.some Jvm.ClassFile.FieldType.boolean) :: gTb
abbrev c_LogDisk_lowestFreeFile : ByteArray := prog_1_method_23_code
abbrev y_LogDisk_lowestFreeFile : MethodName := ⟨"LogDisk", "lowestFreeFile", "()I"⟩
abbrev w_LogDisk_lowestFreeFile : List Cond := Cond.code y_LogDisk_lowestFreeFile c_LogDisk_lowestFreeFile 2 (Option.some Jvm.ClassFile.FieldType.int) :: gTb
abbrev c_LogDisk_writeVote : ByteArray := prog_1_method_24_code
abbrev y_LogDisk_writeVote : MethodName := ⟨"LogDisk", "writeVote", "()V"⟩
abbrev w_LogDisk_writeVote : List Cond := Cond.code y_LogDisk_writeVote c_LogDisk_writeVote 1 (Option.none : Option Jvm.ClassFile.FieldType) :: gTb
abbrev c_LogDisk_openSegment : ByteArray := prog_1_method_25_code
abbrev y_LogDisk_openSegment : MethodName := ⟨"LogDisk", "openSegment", "(I)V"⟩
abbrev w_LogDisk_openSegment : List Cond := Cond.code y_LogDisk_openSegment c_LogDisk_openSegment 2 (Option.none : Option Jvm.ClassFile.FieldType) :: gTb
abbrev c_LogDisk_writeEntry : ByteArray := prog_1_method_26_code
abbrev y_LogDisk_writeEntry : MethodName := ⟨"LogDisk", "writeEntry", "(IIII)V"⟩
abbrev w_LogDisk_writeEntry : List Cond := Cond.code y_LogDisk_writeEntry c_LogDisk_writeEntry 5 (Option.none : Option Jvm.ClassFile.FieldType) :: gTb
abbrev c_LogDisk_moveBase : ByteArray := prog_1_method_27_code
abbrev y_LogDisk_moveBase : MethodName := ⟨"LogDisk", "moveBase", "(IIII)V"⟩
abbrev w_LogDisk_moveBase : List Cond := Cond.code y_LogDisk_moveBase c_LogDisk_moveBase 6 (Option.none : Option Jvm.ClassFile.FieldType) :: gTb
abbrev c_LogDisk_dropSegments : ByteArray := prog_1_method_28_code
abbrev y_LogDisk_dropSegments : MethodName := ⟨"LogDisk", "dropSegments", "()V"⟩
abbrev w_LogDisk_dropSegments : List Cond := Cond.code y_LogDisk_dropSegments c_LogDisk_dropSegments 3 (Option.none : Option Jvm.ClassFile.FieldType) :: gTb
abbrev c_LogDisk_syncFiles : ByteArray := prog_1_method_29_code
abbrev y_LogDisk_syncFiles : MethodName := ⟨"LogDisk", "syncFiles", "()V"⟩
abbrev w_LogDisk_syncFiles : List Cond := Cond.code y_LogDisk_syncFiles c_LogDisk_syncFiles 2 (Option.none : Option Jvm.ClassFile.FieldType) :: gTb
abbrev c_LogDisk_crashFiles : ByteArray := prog_1_method_30_code
abbrev y_LogDisk_crashFiles : MethodName := ⟨"LogDisk", "crashFiles", "(J)V"⟩
abbrev w_LogDisk_crashFiles : List Cond := Cond.code y_LogDisk_crashFiles c_LogDisk_crashFiles 7 (Option.none : Option Jvm.ClassFile.FieldType) :: gTb
abbrev c_LogDisk_findVote : ByteArray := prog_1_method_31_code
abbrev y_LogDisk_findVote : MethodName := ⟨"LogDisk", "findVote", "()V"⟩
abbrev w_LogDisk_findVote : List Cond := Cond.code y_LogDisk_findVote c_LogDisk_findVote 5 (Option.none : Option Jvm.ClassFile.FieldType) :: gTb
abbrev c_LogDisk_findSnapshot : ByteArray := prog_1_method_32_code
abbrev y_LogDisk_findSnapshot : MethodName := ⟨"LogDisk", "findSnapshot", "()V"⟩
abbrev w_LogDisk_findSnapshot : List Cond := Cond.code y_LogDisk_findSnapshot c_LogDisk_findSnapshot 5 (Option.none : Option Jvm.ClassFile.FieldType) :: gTb
abbrev c_LogDisk_findLog : ByteArray := prog_1_method_33_code
abbrev y_LogDisk_findLog : MethodName := ⟨"LogDisk", "findLog", "()V"⟩
abbrev w_LogDisk_findLog : List Cond := Cond.code y_LogDisk_findLog c_LogDisk_findLog 4 (Option.none : Option Jvm.ClassFile.FieldType) :: gTb
abbrev c_LogDisk_followSegments : ByteArray := prog_1_method_34_code
abbrev y_LogDisk_followSegments : MethodName := ⟨"LogDisk", "followSegments", "(II)V"⟩
abbrev w_LogDisk_followSegments : List Cond := Cond.code y_LogDisk_followSegments c_LogDisk_followSegments 7 (Option.none : Option Jvm.ClassFile.FieldType) :: gTb
abbrev c_LogDisk_firstSegment : ByteArray := prog_1_method_35_code
abbrev y_LogDisk_firstSegment : MethodName := ⟨"LogDisk", "firstSegment", "()I"⟩
abbrev w_LogDisk_firstSegment : List Cond := Cond.code y_LogDisk_firstSegment c_LogDisk_firstSegment 5 (Option.some Jvm.ClassFile.FieldType.int) :: gTb
abbrev c_LogDisk_segmentBehind : ByteArray := prog_1_method_36_code
abbrev y_LogDisk_segmentBehind : MethodName := ⟨"LogDisk", "segmentBehind", "(II)I"⟩
abbrev w_LogDisk_segmentBehind : List Cond := Cond.code y_LogDisk_segmentBehind c_LogDisk_segmentBehind 4 (Option.some Jvm.ClassFile.FieldType.int) :: gTb
abbrev c_LogDisk_readSegment : ByteArray := prog_1_method_37_code
abbrev y_LogDisk_readSegment : MethodName := ⟨"LogDisk", "readSegment", "(I)I"⟩
abbrev w_LogDisk_readSegment : List Cond := Cond.code y_LogDisk_readSegment c_LogDisk_readSegment 8 (Option.some Jvm.ClassFile.FieldType.int) :: gTb
abbrev c_LogDisk_holdsBase : ByteArray := prog_1_method_38_code
abbrev y_LogDisk_holdsBase : MethodName := ⟨"LogDisk", "holdsBase", "(II)Z"⟩
abbrev w_LogDisk_holdsBase : List Cond := Cond.code y_LogDisk_holdsBase c_LogDisk_holdsBase 3 (Option.some Jvm.ClassFile.FieldType.boolean) :: gTb
abbrev c_LogDisk_pagesFor : ByteArray := prog_1_method_39_code
abbrev y_LogDisk_pagesFor : MethodName := ⟨"LogDisk", "pagesFor", "(I)I"⟩
abbrev w_LogDisk_pagesFor : List Cond := Cond.code y_LogDisk_pagesFor c_LogDisk_pagesFor 1 (Option.some Jvm.ClassFile.FieldType.int) :: gTb
abbrev c_LogDisk_sumStep : ByteArray := prog_1_method_40_code
abbrev y_LogDisk_sumStep : MethodName := ⟨"LogDisk", "sumStep", "(II)I"⟩
abbrev w_LogDisk_sumStep : List Cond := Cond.code y_LogDisk_sumStep c_LogDisk_sumStep 3 (Option.some Jvm.ClassFile.FieldType.int) :: gTb
abbrev c_Mo_init : ByteArray := prog_12_method_1_code
abbrev y_Mo_init : MethodName := ⟨"LogDiskModel", "<init>", "(II)V"⟩
abbrev w_Mo_init : List Cond := Cond.code y_Mo_init c_Mo_init 4 (Option.none : Option Jvm.ClassFile.FieldType) :: gTb
abbrev c_Mo_thrown : ByteArray := prog_12_method_2_code
abbrev y_Mo_thrown : MethodName := ⟨"LogDiskModel", "thrown", "()I"⟩
abbrev w_Mo_thrown : List Cond := Cond.code y_Mo_thrown c_Mo_thrown 1 (Option.some Jvm.ClassFile.FieldType.int) :: gTb
abbrev c_Mo_fail : ByteArray := prog_12_method_3_code
abbrev y_Mo_fail : MethodName := ⟨"LogDiskModel", "fail", "(I)I"⟩
abbrev w_Mo_fail : List Cond := Cond.code y_Mo_fail c_Mo_fail 2 (Option.some Jvm.ClassFile.FieldType.int) :: gTb
abbrev c_Mo_within : ByteArray := prog_12_method_4_code
abbrev y_Mo_within : MethodName := ⟨"LogDiskModel", "within", "(III)Z"⟩
abbrev w_Mo_within : List Cond := Cond.code y_Mo_within c_Mo_within 3 (Option.some Jvm.ClassFile.FieldType.boolean) :: gTb
abbrev c_Mo_make : ByteArray := prog_12_method_5_code
abbrev y_Mo_make : MethodName := ⟨"LogDiskModel", "make", "(IIII)I"⟩
abbrev w_Mo_make : List Cond := Cond.code y_Mo_make c_Mo_make 6 (Option.some Jvm.ClassFile.FieldType.int) :: gTb
abbrev c_Mo_fill : ByteArray := prog_12_method_6_code
abbrev y_Mo_fill : MethodName := ⟨"LogDiskModel", "fill", "(II)V"⟩
abbrev w_Mo_fill : List Cond := Cond.code y_Mo_fill c_Mo_fill 4 (Option.none : Option Jvm.ClassFile.FieldType) :: gTb
abbrev c_Mo_payload : ByteArray := prog_12_method_7_code
abbrev y_Mo_payload : MethodName := ⟨"LogDiskModel", "payload", "(I)I"⟩
abbrev w_Mo_payload : List Cond := Cond.code y_Mo_payload c_Mo_payload 2 (Option.some Jvm.ClassFile.FieldType.int) :: gTb
abbrev c_Mo_space : ByteArray := prog_12_method_8_code
abbrev y_Mo_space : MethodName := ⟨"LogDiskModel", "space", "(I)I"⟩
abbrev w_Mo_space : List Cond := Cond.code y_Mo_space c_Mo_space 2 (Option.some Jvm.ClassFile.FieldType.int) :: gTb
abbrev c_Mo_byteOf : ByteArray := prog_12_method_9_code
abbrev y_Mo_byteOf : MethodName := ⟨"LogDiskModel", "byteOf", "(JI)I"⟩
abbrev w_Mo_byteOf : List Cond := Cond.code y_Mo_byteOf c_Mo_byteOf 3 (Option.some Jvm.ClassFile.FieldType.int) :: gTb
abbrev c_Mo_payloadAt : ByteArray := prog_12_method_10_code
abbrev y_Mo_payloadAt : MethodName := ⟨"LogDiskModel", "payloadAt", "(II)I"⟩
abbrev w_Mo_payloadAt : List Cond := Cond.code y_Mo_payloadAt c_Mo_payloadAt 3 (Option.some Jvm.ClassFile.FieldType.int) :: gTb
abbrev c_Mo_sumOf : ByteArray := prog_12_method_11_code
abbrev y_Mo_sumOf : MethodName := ⟨"LogDiskModel", "sumOf", "(I)I"⟩
abbrev w_Mo_sumOf : List Cond := Cond.code y_Mo_sumOf c_Mo_sumOf 5 (Option.some Jvm.ClassFile.FieldType.int) :: gTb
abbrev c_Mo_frameAt : ByteArray := prog_12_method_12_code
abbrev y_Mo_frameAt : MethodName := ⟨"LogDiskModel", "frameAt", "(II)I"⟩
abbrev w_Mo_frameAt : List Cond := Cond.code y_Mo_frameAt c_Mo_frameAt 3 (Option.some Jvm.ClassFile.FieldType.int) :: gTb
abbrev c_Mo_pages : ByteArray := prog_12_method_13_code
abbrev y_Mo_pages : MethodName := ⟨"LogDiskModel", "pages", "(I)I"⟩
abbrev w_Mo_pages : List Cond := Cond.code y_Mo_pages c_Mo_pages 1 (Option.some Jvm.ClassFile.FieldType.int) :: gTb
abbrev c_Mo_pagesUsed : ByteArray := prog_12_method_14_code
abbrev y_Mo_pagesUsed : MethodName := ⟨"LogDiskModel", "pagesUsed", "()I"⟩
abbrev w_Mo_pagesUsed : List Cond := Cond.code y_Mo_pagesUsed c_Mo_pagesUsed 3 (Option.some Jvm.ClassFile.FieldType.int) :: gTb
abbrev c_Mo_needed : ByteArray := prog_12_method_15_code
abbrev y_Mo_needed : MethodName := ⟨"LogDiskModel", "needed", "(II)I"⟩
abbrev w_Mo_needed : List Cond := Cond.code y_Mo_needed c_Mo_needed 4 (Option.some Jvm.ClassFile.FieldType.int) :: gTb
abbrev c_Mo_hasRoom : ByteArray := prog_12_method_16_code
abbrev y_Mo_hasRoom : MethodName := ⟨"LogDiskModel", "hasRoom", "(II)Z"⟩
abbrev w_Mo_hasRoom : List Cond := Cond.code y_Mo_hasRoom c_Mo_hasRoom 3 (Option.some Jvm.ClassFile.FieldType.boolean) :: gTb
abbrev c_Mo_hasRoomAnew : ByteArray := prog_12_method_17_code
abbrev y_Mo_hasRoomAnew : MethodName := ⟨"LogDiskModel", "hasRoomAnew", "(II)Z"⟩
abbrev w_Mo_hasRoomAnew : List Cond := Cond.code y_Mo_hasRoomAnew c_Mo_hasRoomAnew 4 (Option.some Jvm.ClassFile.FieldType.boolean) :: gTb
abbrev c_Mo_cut : ByteArray := prog_12_method_18_code
abbrev y_Mo_cut : MethodName := ⟨"LogDiskModel", "cut", "(II)V"⟩
abbrev w_Mo_cut : List Cond := Cond.code y_Mo_cut c_Mo_cut 5 (Option.none : Option Jvm.ClassFile.FieldType) :: gTb
abbrev c_Mo_remove : ByteArray := prog_12_method_19_code
abbrev y_Mo_remove : MethodName := ⟨"LogDiskModel", "remove", "(I)V"⟩
abbrev w_Mo_remove : List Cond := Cond.code y_Mo_remove c_Mo_remove 2 (Option.none : Option Jvm.ClassFile.FieldType) :: gTb
abbrev c_Mo_put : ByteArray := prog_12_method_20_code
abbrev y_Mo_put : MethodName := ⟨"LogDiskModel", "put", "(II)V"⟩
abbrev w_Mo_put : List Cond := Cond.code y_Mo_put c_Mo_put 3 (Option.none : Option Jvm.ClassFile.FieldType) :: gTb
abbrev c_Mo_copy : ByteArray := prog_12_method_21_code
abbrev y_Mo_copy : MethodName := ⟨"LogDiskModel", "copy", "(II)V"⟩
abbrev w_Mo_copy : List Cond := Cond.code y_Mo_copy c_Mo_copy 4 (Option.none : Option Jvm.ClassFile.FieldType) :: gTb
abbrev c_Mo_settle : ByteArray := prog_12_method_22_code
abbrev y_Mo_settle : MethodName := ⟨"LogDiskModel", "settle", "(I)V"⟩
abbrev w_Mo_settle : List Cond := Cond.code y_Mo_settle c_Mo_settle 2 (Option.none : Option Jvm.ClassFile.FieldType) :: gTb
abbrev c_Mo_feed : ByteArray := prog_12_method_23_code
abbrev y_Mo_feed : MethodName := ⟨"LogDiskModel", "feed", "(JI)I"⟩
abbrev w_Mo_feed : List Cond := Cond.code y_Mo_feed c_Mo_feed 5 (Option.some Jvm.ClassFile.FieldType.int) :: gTb
abbrev c_Mo_save : ByteArray := prog_12_method_24_code
abbrev y_Mo_save : MethodName := ⟨"LogDiskModel", "save", "(II)I"⟩
abbrev w_Mo_save : List Cond := Cond.code y_Mo_save c_Mo_save 5 (Option.some Jvm.ClassFile.FieldType.int) :: gTb
abbrev c_Mo_termOf : ByteArray := prog_12_method_25_code
abbrev y_Mo_termOf : MethodName := ⟨"LogDiskModel", "termOf", "(I)I"⟩
abbrev w_Mo_termOf : List Cond := Cond.code y_Mo_termOf c_Mo_termOf 2 (Option.some Jvm.ClassFile.FieldType.int) :: gTb
abbrev c_Mo_freeFile : ByteArray := prog_12_method_26_code
abbrev y_Mo_freeFile : MethodName := ⟨"LogDiskModel", "freeFile", "()I"⟩
abbrev w_Mo_freeFile : List Cond := Cond.code y_Mo_freeFile c_Mo_freeFile 2 (Option.some Jvm.ClassFile.FieldType.int) :: gTb
abbrev c_Mo_append : ByteArray := prog_12_method_27_code
abbrev y_Mo_append : MethodName := ⟨"LogDiskModel", "append", "(II)I"⟩
abbrev w_Mo_append : List Cond := Cond.code y_Mo_append c_Mo_append 7 (Option.some Jvm.ClassFile.FieldType.int) :: gTb
abbrev c_Mo_firstOf : ByteArray := prog_12_method_28_code
abbrev y_Mo_firstOf : MethodName := ⟨"LogDiskModel", "firstOf", "(I)I"⟩
abbrev w_Mo_firstOf : List Cond := Cond.code y_Mo_firstOf c_Mo_firstOf 2 (Option.some Jvm.ClassFile.FieldType.int) :: gTb
abbrev c_Mo_placeIn : ByteArray := prog_12_method_29_code
abbrev y_Mo_placeIn : MethodName := ⟨"LogDiskModel", "placeIn", "(II)I"⟩
abbrev w_Mo_placeIn : List Cond := Cond.code y_Mo_placeIn c_Mo_placeIn 5 (Option.some Jvm.ClassFile.FieldType.int) :: gTb
abbrev c_Mo_cutFrom : ByteArray := prog_12_method_30_code
abbrev y_Mo_cutFrom : MethodName := ⟨"LogDiskModel", "cutFrom", "(I)I"⟩
abbrev w_Mo_cutFrom : List Cond := Cond.code y_Mo_cutFrom c_Mo_cutFrom 5 (Option.some Jvm.ClassFile.FieldType.int) :: gTb
abbrev c_Mo_lastOf : ByteArray := prog_12_method_31_code
abbrev y_Mo_lastOf : MethodName := ⟨"LogDiskModel", "lastOf", "(I)I"⟩
abbrev w_Mo_lastOf : List Cond := Cond.code y_Mo_lastOf c_Mo_lastOf 2 (Option.some Jvm.ClassFile.FieldType.int) :: gTb
abbrev c_Mo_rebase : ByteArray := prog_12_method_32_code
abbrev y_Mo_rebase : MethodName := ⟨"LogDiskModel", "rebase", "(II)V"⟩
abbrev w_Mo_rebase : List Cond := Cond.code y_Mo_rebase c_Mo_rebase 5 (Option.none : Option Jvm.ClassFile.FieldType) :: gTb
abbrev c_Mo_write : ByteArray := prog_12_method_33_code
abbrev y_Mo_write : MethodName := ⟨"LogDiskModel", "write", "(IIII)Z"⟩
abbrev w_Mo_write : List Cond := Cond.code y_Mo_write c_Mo_write 7 (Option.some Jvm.ClassFile.FieldType.boolean) :: gTb
abbrev c_Mo_compact : ByteArray := prog_12_method_34_code
abbrev y_Mo_compact : MethodName := ⟨"LogDiskModel", "compact", "(II)I"⟩
abbrev w_Mo_compact : List Cond := Cond.code y_Mo_compact c_Mo_compact 6 (Option.some Jvm.ClassFile.FieldType.int) :: gTb
abbrev c_Mo_take : ByteArray := prog_12_method_35_code
abbrev y_Mo_take : MethodName := ⟨"LogDiskModel", "take", "(III)I"⟩
abbrev w_Mo_take : List Cond := Cond.code y_Mo_take c_Mo_take 6 (Option.some Jvm.ClassFile.FieldType.int) :: gTb
abbrev c_Mo_sync : ByteArray := prog_12_method_36_code
abbrev y_Mo_sync : MethodName := ⟨"LogDiskModel", "sync", "()Z"⟩
abbrev w_Mo_sync : List Cond := Cond.code y_Mo_sync c_Mo_sync 3 (Option.some Jvm.ClassFile.FieldType.boolean) :: gTb
abbrev c_Mo_keep : ByteArray := prog_12_method_37_code
abbrev y_Mo_keep : MethodName := ⟨"LogDiskModel", "keep", "(II)V"⟩
abbrev w_Mo_keep : List Cond := Cond.code y_Mo_keep c_Mo_keep 3 (Option.none : Option Jvm.ClassFile.FieldType) :: gTb
abbrev c_Mo_crashFile : ByteArray := prog_12_method_38_code
abbrev y_Mo_crashFile : MethodName := ⟨"LogDiskModel", "crashFile", "(II)V"⟩
abbrev w_Mo_crashFile : List Cond := Cond.code y_Mo_crashFile c_Mo_crashFile 3 (Option.none : Option Jvm.ClassFile.FieldType) :: gTb
abbrev c_Mo_whole : ByteArray := prog_12_method_39_code
abbrev y_Mo_whole : MethodName := ⟨"LogDiskModel", "whole", "(I)I"⟩
abbrev w_Mo_whole : List Cond := Cond.code y_Mo_whole c_Mo_whole 5 (Option.some Jvm.ClassFile.FieldType.int) :: gTb
abbrev c_Mo_findSlots : ByteArray := prog_12_method_40_code
abbrev y_Mo_findSlots : MethodName := ⟨"LogDiskModel", "findSlots", "()V"⟩
abbrev w_Mo_findSlots : List Cond := Cond.code y_Mo_findSlots c_Mo_findSlots 3 (Option.none : Option Jvm.ClassFile.FieldType) :: gTb
abbrev c_Mo_findSnapshot : ByteArray := prog_12_method_41_code
abbrev y_Mo_findSnapshot : MethodName := ⟨"LogDiskModel", "findSnapshot", "()V"⟩
abbrev w_Mo_findSnapshot : List Cond := Cond.code y_Mo_findSnapshot c_Mo_findSnapshot 3 (Option.none : Option Jvm.ClassFile.FieldType) :: gTb
abbrev c_Mo_firstSegment : ByteArray := prog_12_method_42_code
abbrev y_Mo_firstSegment : MethodName := ⟨"LogDiskModel", "firstSegment", "()I"⟩
abbrev w_Mo_firstSegment : List Cond := Cond.code y_Mo_firstSegment c_Mo_firstSegment 3 (Option.some Jvm.ClassFile.FieldType.int) :: gTb
abbrev c_Mo_join : ByteArray := prog_12_method_43_code
abbrev y_Mo_join : MethodName := ⟨"LogDiskModel", "join", "(I)V"⟩
abbrev w_Mo_join : List Cond := Cond.code y_Mo_join c_Mo_join 6 (Option.none : Option Jvm.ClassFile.FieldType) :: gTb
abbrev c_Mo_isJoined : ByteArray := prog_12_method_44_code
abbrev y_Mo_isJoined : MethodName := ⟨"LogDiskModel", "isJoined", "(I)Z"⟩
abbrev w_Mo_isJoined : List Cond := Cond.code y_Mo_isJoined c_Mo_isJoined 4 (Option.some Jvm.ClassFile.FieldType.boolean) :: gTb
abbrev c_Mo_nextSegment : ByteArray := prog_12_method_45_code
abbrev y_Mo_nextSegment : MethodName := ⟨"LogDiskModel", "nextSegment", "()I"⟩
abbrev w_Mo_nextSegment : List Cond := Cond.code y_Mo_nextSegment c_Mo_nextSegment 2 (Option.some Jvm.ClassFile.FieldType.int) :: gTb
abbrev c_Mo_crash : ByteArray := prog_12_method_46_code
abbrev y_Mo_crash : MethodName := ⟨"LogDiskModel", "crash", "(J)I"⟩
abbrev w_Mo_crash : List Cond := Cond.code y_Mo_crash c_Mo_crash 9 (Option.some Jvm.ClassFile.FieldType.int) :: gTb
abbrev c_Mo_state : ByteArray := prog_12_method_47_code
abbrev y_Mo_state : MethodName := ⟨"LogDiskModel", "state", "(I)I"⟩
abbrev w_Mo_state : List Cond := Cond.code y_Mo_state c_Mo_state 2 (Option.some Jvm.ClassFile.FieldType.int) :: gTb
abbrev c_Mo_fileOf : ByteArray := prog_12_method_48_code
abbrev y_Mo_fileOf : MethodName := ⟨"LogDiskModel", "fileOf", "(I)I"⟩
abbrev w_Mo_fileOf : List Cond := Cond.code y_Mo_fileOf c_Mo_fileOf 4 (Option.some Jvm.ClassFile.FieldType.int) :: gTb
abbrev c_Mo_entry : ByteArray := prog_12_method_49_code
abbrev y_Mo_entry : MethodName := ⟨"LogDiskModel", "entry", "(II)I"⟩
abbrev w_Mo_entry : List Cond := Cond.code y_Mo_entry c_Mo_entry 5 (Option.some Jvm.ClassFile.FieldType.int) :: gTb
abbrev c_Mo_contentAt : ByteArray := prog_12_method_50_code
abbrev y_Mo_contentAt : MethodName := ⟨"LogDiskModel", "contentAt", "(II)I"⟩
abbrev w_Mo_contentAt : List Cond := Cond.code y_Mo_contentAt c_Mo_contentAt 4 (Option.some Jvm.ClassFile.FieldType.int) :: gTb
abbrev c_Mo_snapshotAt : ByteArray := prog_12_method_51_code
abbrev y_Mo_snapshotAt : MethodName := ⟨"LogDiskModel", "snapshotAt", "(I)I"⟩
abbrev w_Mo_snapshotAt : List Cond := Cond.code y_Mo_snapshotAt c_Mo_snapshotAt 2 (Option.some Jvm.ClassFile.FieldType.int) :: gTb
abbrev c_Mo_segment : ByteArray := prog_12_method_52_code
abbrev y_Mo_segment : MethodName := ⟨"LogDiskModel", "segment", "(II)I"⟩
abbrev w_Mo_segment : List Cond := Cond.code y_Mo_segment c_Mo_segment 3 (Option.some Jvm.ClassFile.FieldType.int) :: gTb
abbrev c_Mo_file : ByteArray := prog_12_method_53_code
abbrev y_Mo_file : MethodName := ⟨"LogDiskModel", "file", "(II)I"⟩
abbrev w_Mo_file : List Cond := Cond.code y_Mo_file c_Mo_file 3 (Option.some Jvm.ClassFile.FieldType.int) :: gTb
abbrev c_Mo_byteAt : ByteArray := prog_12_method_54_code
abbrev y_Mo_byteAt : MethodName := ⟨"LogDiskModel", "byteAt", "(II)I"⟩
abbrev w_Mo_byteAt : List Cond := Cond.code y_Mo_byteAt c_Mo_byteAt 5 (Option.some Jvm.ClassFile.FieldType.int) :: gTb
abbrev c_Content_init : ByteArray := prog_2_method_1_code
abbrev y_Content_init : MethodName := ⟨"LogDisk$Content", "<init>", "(I)V"⟩
abbrev w_Content_init : List Cond := Cond.code y_Content_init c_Content_init 2 (Option.none : Option Jvm.ClassFile.FieldType) :: gTb
abbrev c_Content_shorten : ByteArray := prog_2_method_2_code
abbrev y_Content_shorten : MethodName := ⟨"LogDisk$Content", "shorten", "(ILLogDisk$Pages;)V"⟩
abbrev w_Content_shorten : List Cond := Cond.code y_Content_shorten c_Content_shorten 5 (Option.none : Option Jvm.ClassFile.FieldType) :: gTb
abbrev c_Content_become : ByteArray := prog_2_method_3_code
abbrev y_Content_become : MethodName := ⟨"LogDisk$Content", "become", "(LLogDisk$Content;LLogDisk$Pages;)V"⟩
abbrev w_Content_become : List Cond := Cond.code y_Content_become c_Content_become 5 (Option.none : Option Jvm.ClassFile.FieldType) :: gTb
abbrev c_DiskFile_init : ByteArray := prog_3_method_1_code
abbrev y_DiskFile_init : MethodName := ⟨"LogDisk$DiskFile", "<init>", "(LLogDisk$Pages;I)V"⟩
abbrev w_DiskFile_init : List Cond := Cond.code y_DiskFile_init c_DiskFile_init 3 (Option.none : Option Jvm.ClassFile.FieldType) :: gTb
abbrev c_DiskFile_isShared : ByteArray := prog_3_method_2_code
abbrev y_DiskFile_isShared : MethodName := ⟨"LogDisk$DiskFile", "isShared", "(I)Z"⟩
abbrev w_DiskFile_isShared : List Cond := Cond.code y_DiskFile_isShared c_DiskFile_isShared 2 (Option.some Jvm.ClassFile.FieldType.boolean) :: gTb
abbrev c_DiskFile_mustCopyLastPage : ByteArray := prog_3_method_3_code
abbrev y_DiskFile_mustCopyLastPage : MethodName := ⟨"LogDisk$DiskFile", "mustCopyLastPage", "()Z"⟩
abbrev w_DiskFile_mustCopyLastPage : List Cond := Cond.code y_DiskFile_mustCopyLastPage c_DiskFile_mustCopyLastPage 1 (Option.some Jvm.ClassFile.FieldType.boolean) :: gTb
abbrev c_DiskFile_canExtend : ByteArray := prog_3_method_4_code
abbrev y_DiskFile_canExtend : MethodName := ⟨"LogDisk$DiskFile", "canExtend", "(I)Z"⟩
abbrev w_DiskFile_canExtend : List Cond := Cond.code y_DiskFile_canExtend c_DiskFile_canExtend 4 (Option.some Jvm.ClassFile.FieldType.boolean) :: gTb
abbrev c_DiskFile_canRewrite : ByteArray := prog_3_method_5_code
abbrev y_DiskFile_canRewrite : MethodName := ⟨"LogDisk$DiskFile", "canRewrite", "(I)Z"⟩
abbrev w_DiskFile_canRewrite : List Cond := Cond.code y_DiskFile_canRewrite c_DiskFile_canRewrite 5 (Option.some Jvm.ClassFile.FieldType.boolean) :: gTb
abbrev c_DiskFile_write : ByteArray := prog_3_method_6_code
abbrev y_DiskFile_write : MethodName := ⟨"LogDisk$DiskFile", "write", "([BI)V"⟩
abbrev w_DiskFile_write : List Cond := Cond.code y_DiskFile_write c_DiskFile_write 8 (Option.none : Option Jvm.ClassFile.FieldType) :: gTb
abbrev c_DiskFile_copyLastPage : ByteArray := prog_3_method_7_code
abbrev y_DiskFile_copyLastPage : MethodName := ⟨"LogDisk$DiskFile", "copyLastPage", "()V"⟩
abbrev w_DiskFile_copyLastPage : List Cond := Cond.code y_DiskFile_copyLastPage c_DiskFile_copyLastPage 4 (Option.none : Option Jvm.ClassFile.FieldType) :: gTb
abbrev c_DiskFile_cutTo : ByteArray := prog_3_method_8_code
abbrev y_DiskFile_cutTo : MethodName := ⟨"LogDisk$DiskFile", "cutTo", "(I)V"⟩
abbrev w_DiskFile_cutTo : List Cond := Cond.code y_DiskFile_cutTo c_DiskFile_cutTo 2 (Option.none : Option Jvm.ClassFile.FieldType) :: gTb
abbrev c_DiskFile_remove : ByteArray := prog_3_method_9_code
abbrev y_DiskFile_remove : MethodName := ⟨"LogDisk$DiskFile", "remove", "()V"⟩
abbrev w_DiskFile_remove : List Cond := Cond.code y_DiskFile_remove c_DiskFile_remove 1 (Option.none : Option Jvm.ClassFile.FieldType) :: gTb
abbrev c_DiskFile_settle : ByteArray := prog_3_method_10_code
abbrev y_DiskFile_settle : MethodName := ⟨"LogDisk$DiskFile", "settle", "()V"⟩
abbrev w_DiskFile_settle : List Cond := Cond.code y_DiskFile_settle c_DiskFile_settle 1 (Option.none : Option Jvm.ClassFile.FieldType) :: gTb
abbrev c_DiskFile_drawnKeep : ByteArray := prog_3_method_11_code
abbrev y_DiskFile_drawnKeep : MethodName := ⟨"LogDisk$DiskFile", "drawnKeep", "(J)I"⟩
abbrev w_DiskFile_drawnKeep : List Cond := Cond.code y_DiskFile_drawnKeep c_DiskFile_drawnKeep 5 (Option.some Jvm.ClassFile.FieldType.int) :: gTb
abbrev c_DiskFile_fail : ByteArray := prog_3_method_12_code
abbrev y_DiskFile_fail : MethodName := ⟨"LogDisk$DiskFile", "fail", "(I)V"⟩
abbrev w_DiskFile_fail : List Cond := Cond.code y_DiskFile_fail c_DiskFile_fail 4 (Option.none : Option Jvm.ClassFile.FieldType) :: gTb
abbrev c_DiskFile_read : ByteArray := prog_3_method_13_code
abbrev y_DiskFile_read : MethodName := ⟨"LogDisk$DiskFile", "read", "(I)I"⟩
abbrev w_DiskFile_read : List Cond := Cond.code y_DiskFile_read c_DiskFile_read 2 (Option.some Jvm.ClassFile.FieldType.int) :: gTb
abbrev c_DiskFile_number : ByteArray := prog_3_method_14_code
abbrev y_DiskFile_number : MethodName := ⟨"LogDisk$DiskFile", "number", "(II)J"⟩
abbrev w_DiskFile_number : List Cond := Cond.code y_DiskFile_number c_DiskFile_number 6 (Option.some Jvm.ClassFile.FieldType.long) :: gTb
abbrev c_DiskFile_wholeFrame : ByteArray := prog_3_method_15_code
abbrev y_DiskFile_wholeFrame : MethodName := ⟨"LogDisk$DiskFile", "wholeFrame", "(I)I"⟩
abbrev w_DiskFile_wholeFrame : List Cond := Cond.code y_DiskFile_wholeFrame c_DiskFile_wholeFrame 6 (Option.some Jvm.ClassFile.FieldType.int) :: gTb
abbrev c_DiskFile_segmentFirst : ByteArray := prog_3_method_16_code
abbrev y_DiskFile_segmentFirst : MethodName := ⟨"LogDisk$DiskFile", "segmentFirst", "()I"⟩
abbrev w_DiskFile_segmentFirst : List Cond := Cond.code y_DiskFile_segmentFirst c_DiskFile_segmentFirst 1 (Option.some Jvm.ClassFile.FieldType.int) :: gTb
abbrev c_DiskFile_termBefore : ByteArray := prog_3_method_17_code
abbrev y_DiskFile_termBefore : MethodName := ⟨"LogDisk$DiskFile", "termBefore", "()I"⟩
abbrev w_DiskFile_termBefore : List Cond := Cond.code y_DiskFile_termBefore c_DiskFile_termBefore 1 (Option.some Jvm.ClassFile.FieldType.int) :: gTb
abbrev c_Entries_init : ByteArray := prog_4_method_1_code
abbrev y_Entries_init : MethodName := ⟨"LogDisk$Entries", "<init>", "()V"⟩
abbrev w_Entries_init : List Cond := Cond.code y_Entries_init c_Entries_init 1 (Option.none : Option Jvm.ClassFile.FieldType) :: gTb
abbrev c_Entries_slot : ByteArray := prog_4_method_2_code
abbrev y_Entries_slot : MethodName := ⟨"LogDisk$Entries", "slot", "(I)I"⟩
abbrev w_Entries_slot : List Cond := Cond.code y_Entries_slot c_Entries_slot 2 (Option.some Jvm.ClassFile.FieldType.int) :: gTb
abbrev c_Entries_set : ByteArray := prog_4_method_3_code
abbrev y_Entries_set : MethodName := ⟨"LogDisk$Entries", "set", "(IIIIII)V"⟩
abbrev w_Entries_set : List Cond := Cond.code y_Entries_set c_Entries_set 8 (Option.none : Option Jvm.ClassFile.FieldType) :: gTb
abbrev c_Frame_init : ByteArray := prog_5_method_1_code
abbrev y_Frame_init : MethodName := ⟨"LogDisk$Frame", "<init>", "()V"⟩
abbrev w_Frame_init : List Cond := Cond.code y_Frame_init c_Frame_init 1 (Option.none : Option Jvm.ClassFile.FieldType) :: gTb
abbrev c_Frame_begin : ByteArray := prog_5_method_2_code
abbrev y_Frame_begin : MethodName := ⟨"LogDisk$Frame", "begin", "()V"⟩
abbrev w_Frame_begin : List Cond := Cond.code y_Frame_begin c_Frame_begin 1 (Option.none : Option Jvm.ClassFile.FieldType) :: gTb
abbrev c_Frame_add : ByteArray := prog_5_method_3_code
abbrev y_Frame_add : MethodName := ⟨"LogDisk$Frame", "add", "(JI)V"⟩
abbrev w_Frame_add : List Cond := Cond.code y_Frame_add c_Frame_add 4 (Option.none : Option Jvm.ClassFile.FieldType) :: gTb
abbrev c_Frame_addBytes : ByteArray := prog_5_method_4_code
abbrev y_Frame_addBytes : MethodName := ⟨"LogDisk$Frame", "addBytes", "([BI)V"⟩
abbrev w_Frame_addBytes : List Cond := Cond.code y_Frame_addBytes c_Frame_addBytes 3 (Option.none : Option Jvm.ClassFile.FieldType) :: gTb
abbrev c_Frame_close : ByteArray := prog_5_method_5_code
abbrev y_Frame_close : MethodName := ⟨"LogDisk$Frame", "close", "()V"⟩
abbrev w_Frame_close : List Cond := Cond.code y_Frame_close c_Frame_close 3 (Option.none : Option Jvm.ClassFile.FieldType) :: gTb
abbrev c_Frame_put : ByteArray := prog_5_method_6_code
abbrev y_Frame_put : MethodName := ⟨"LogDisk$Frame", "put", "(IJI)V"⟩
abbrev w_Frame_put : List Cond := Cond.code y_Frame_put c_Frame_put 6 (Option.none : Option Jvm.ClassFile.FieldType) :: gTb
abbrev c_Pages_init : ByteArray := prog_6_method_1_code
abbrev y_Pages_init : MethodName := ⟨"LogDisk$Pages", "<init>", "(I)V"⟩
abbrev w_Pages_init : List Cond := Cond.code y_Pages_init c_Pages_init 3 (Option.none : Option Jvm.ClassFile.FieldType) :: gTb
abbrev c_Pages_used : ByteArray := prog_6_method_2_code
abbrev y_Pages_used : MethodName := ⟨"LogDisk$Pages", "used", "()I"⟩
abbrev w_Pages_used : List Cond := Cond.code y_Pages_used c_Pages_used 1 (Option.some Jvm.ClassFile.FieldType.int) :: gTb
abbrev c_Pages_seize : ByteArray := prog_6_method_3_code
abbrev y_Pages_seize : MethodName := ⟨"LogDisk$Pages", "seize", "()I"⟩
abbrev w_Pages_seize : List Cond := Cond.code y_Pages_seize c_Pages_seize 2 (Option.some Jvm.ClassFile.FieldType.int) :: gTb
abbrev c_Pages_share : ByteArray := prog_6_method_4_code
abbrev y_Pages_share : MethodName := ⟨"LogDisk$Pages", "share", "(I)V"⟩
abbrev w_Pages_share : List Cond := Cond.code y_Pages_share c_Pages_share 2 (Option.none : Option Jvm.ClassFile.FieldType) :: gTb
abbrev c_Pages_giveUp : ByteArray := prog_6_method_5_code
abbrev y_Pages_giveUp : MethodName := ⟨"LogDisk$Pages", "giveUp", "(I)V"⟩
abbrev w_Pages_giveUp : List Cond := Cond.code y_Pages_giveUp c_Pages_giveUp 2 (Option.none : Option Jvm.ClassFile.FieldType) :: gTb
abbrev c_Segments_init : ByteArray := prog_7_method_1_code
abbrev y_Segments_init : MethodName := ⟨"LogDisk$Segments", "<init>", "()V"⟩
abbrev w_Segments_init : List Cond := Cond.code y_Segments_init c_Segments_init 1 (Option.none : Option Jvm.ClassFile.FieldType) :: gTb
abbrev c_Segments_add : ByteArray := prog_7_method_2_code
abbrev y_Segments_add : MethodName := ⟨"LogDisk$Segments", "add", "(II)V"⟩
abbrev w_Segments_add : List Cond := Cond.code y_Segments_add c_Segments_add 3 (Option.none : Option Jvm.ClassFile.FieldType) :: gTb
abbrev c_Segments_lastFile : ByteArray := prog_7_method_3_code
abbrev y_Segments_lastFile : MethodName := ⟨"LogDisk$Segments", "lastFile", "()I"⟩
abbrev w_Segments_lastFile : List Cond := Cond.code y_Segments_lastFile c_Segments_lastFile 1 (Option.some Jvm.ClassFile.FieldType.int) :: gTb
abbrev c_Segments_has : ByteArray := prog_7_method_4_code
abbrev y_Segments_has : MethodName := ⟨"LogDisk$Segments", "has", "(I)Z"⟩
abbrev w_Segments_has : List Cond := Cond.code y_Segments_has c_Segments_has 3 (Option.some Jvm.ClassFile.FieldType.boolean) :: gTb
abbrev c_Segments_endedBy : ByteArray := prog_7_method_5_code
abbrev y_Segments_endedBy : MethodName := ⟨"LogDisk$Segments", "endedBy", "(I)I"⟩
abbrev w_Segments_endedBy : List Cond := Cond.code y_Segments_endedBy c_Segments_endedBy 4 (Option.some Jvm.ClassFile.FieldType.int) :: gTb
abbrev c_Segments_dropFront : ByteArray := prog_7_method_6_code
abbrev y_Segments_dropFront : MethodName := ⟨"LogDisk$Segments", "dropFront", "(I)V"⟩
abbrev w_Segments_dropFront : List Cond := Cond.code y_Segments_dropFront c_Segments_dropFront 3 (Option.none : Option Jvm.ClassFile.FieldType) :: gTb
abbrev c_Snapshot_init : ByteArray := prog_8_method_1_code
abbrev y_Snapshot_init : MethodName := ⟨"LogDisk$Snapshot", "<init>", "()V"⟩
abbrev w_Snapshot_init : List Cond := Cond.code y_Snapshot_init c_Snapshot_init 1 (Option.none : Option Jvm.ClassFile.FieldType) :: gTb
abbrev c_Snapshot_set : ByteArray := prog_8_method_2_code
abbrev y_Snapshot_set : MethodName := ⟨"LogDisk$Snapshot", "set", "(IIII)V"⟩
abbrev w_Snapshot_set : List Cond := Cond.code y_Snapshot_set c_Snapshot_set 5 (Option.none : Option Jvm.ClassFile.FieldType) :: gTb
abbrev c_Snapshot_nextFile : ByteArray := prog_8_method_3_code
abbrev y_Snapshot_nextFile : MethodName := ⟨"LogDisk$Snapshot", "nextFile", "()I"⟩
abbrev w_Snapshot_nextFile : List Cond := Cond.code y_Snapshot_nextFile c_Snapshot_nextFile 1 (Option.some Jvm.ClassFile.FieldType.int) :: gTb
abbrev c_Tape_init : ByteArray := prog_9_method_1_code
abbrev y_Tape_init : MethodName := ⟨"LogDisk$Tape", "<init>", "()V"⟩
abbrev w_Tape_init : List Cond := Cond.code y_Tape_init c_Tape_init 1 (Option.none : Option Jvm.ClassFile.FieldType) :: gTb
abbrev c_Tape_handOver : ByteArray := prog_9_method_2_code
abbrev y_Tape_handOver : MethodName := ⟨"LogDisk$Tape", "handOver", "()I"⟩
abbrev w_Tape_handOver : List Cond := Cond.code y_Tape_handOver c_Tape_handOver 2 (Option.some Jvm.ClassFile.FieldType.int) :: gTb
abbrev c_Vote_init : ByteArray := prog_10_method_1_code
abbrev y_Vote_init : MethodName := ⟨"LogDisk$Vote", "<init>", "()V"⟩
abbrev w_Vote_init : List Cond := Cond.code y_Vote_init c_Vote_init 1 (Option.none : Option Jvm.ClassFile.FieldType) :: gTb
abbrev c_Vote_set : ByteArray := prog_10_method_2_code
abbrev y_Vote_set : MethodName := ⟨"LogDisk$Vote", "set", "(IJII)V"⟩
abbrev w_Vote_set : List Cond := Cond.code y_Vote_set c_Vote_set 6 (Option.none : Option Jvm.ClassFile.FieldType) :: gTb
abbrev c_Vote_forget : ByteArray := prog_10_method_3_code
abbrev y_Vote_forget : MethodName := ⟨"LogDisk$Vote", "forget", "()V"⟩
abbrev w_Vote_forget : List Cond := Cond.code y_Vote_forget c_Vote_forget 1 (Option.none : Option Jvm.ClassFile.FieldType) :: gTb
abbrev c_Vote_nextFile : ByteArray := prog_10_method_4_code
abbrev y_Vote_nextFile : MethodName := ⟨"LogDisk$Vote", "nextFile", "()I"⟩
abbrev w_Vote_nextFile : List Cond := Cond.code y_Vote_nextFile c_Vote_nextFile 1 (Option.some Jvm.ClassFile.FieldType.int) :: gTb
abbrev c_Law_cell : ByteArray := method_2_code
abbrev y_Law_cell : MethodName := ⟨"LogDiskLaw", "cell", "([II)I"⟩
abbrev w_Law_cell : List Cond := Cond.code y_Law_cell c_Law_cell 2 (Option.some Jvm.ClassFile.FieldType.int) :: gTb
abbrev c_Math_floorMod : ByteArray := prog_17_method_50_code
abbrev y_Math_floorMod : MethodName := ⟨"java/lang/Math", "floorMod", "(II)I"⟩
abbrev w_Math_floorMod : List Cond := Cond.code y_Math_floorMod c_Math_floorMod 3 (Option.some Jvm.ClassFile.FieldType.int) :: gTb
end
section
theorem d_Content_init_0 : decode prog_2_method_1_code 0 = .ok (.aload_n 0, 1) := by decide +kernel
theorem d_Content_init_1 : decode prog_2_method_1_code 1 = .ok (.invokespecial 1, 3) := by decide +kernel
theorem d_Content_init_4 : decode prog_2_method_1_code 4 = .ok (.aload_n 0, 1) := by decide +kernel
theorem d_Content_init_5 : decode prog_2_method_1_code 5 = .ok (.iload_n 1, 1) := by decide +kernel
theorem d_Content_init_6 : decode prog_2_method_1_code 6 = .ok (.newarray .int, 2) := by decide +kernel
theorem d_Content_init_8 : decode prog_2_method_1_code 8 = .ok (.putfield 7, 3) := by decide +kernel
theorem d_Content_init_11 : decode prog_2_method_1_code 11 = .ok (.return_, 1) := by decide +kernel
theorem d_Content_shorten_0 : decode prog_2_method_2_code 0 = .ok (.aload_n 0, 1) := by decide +kernel
theorem d_Content_shorten_1 : decode prog_2_method_2_code 1 = .ok (.getfield 13, 3) := by decide +kernel
theorem d_Content_shorten_4 : decode prog_2_method_2_code 4 = .ok (.invokestatic 17, 3) := by decide +kernel
theorem d_Content_shorten_7 : decode prog_2_method_2_code 7 = .ok (.istore_n 3, 1) := by decide +kernel
theorem d_Content_shorten_8 : decode prog_2_method_2_code 8 = .ok (.iload_n 1, 1) := by decide +kernel
theorem d_Content_shorten_9 : decode prog_2_method_2_code 9 = .ok (.invokestatic 17, 3) := by decide +kernel
theorem d_Content_shorten_12 : decode prog_2_method_2_code 12 = .ok (.istore 4, 2) := by decide +kernel
theorem d_Content_shorten_14 : decode prog_2_method_2_code 14 = .ok (.iload 4, 2) := by decide +kernel
theorem d_Content_shorten_16 : decode prog_2_method_2_code 16 = .ok (.iload_n 3, 1) := by decide +kernel
theorem d_Content_shorten_17 : decode prog_2_method_2_code 17 = .ok (.if_icmp .ge 30, 3) := by decide +kernel
theorem d_Content_shorten_20 : decode prog_2_method_2_code 20 = .ok (.iload 4, 2) := by decide +kernel
theorem d_Content_shorten_22 : decode prog_2_method_2_code 22 = .ok (.aload_n 0, 1) := by decide +kernel
theorem d_Content_shorten_23 : decode prog_2_method_2_code 23 = .ok (.getfield 7, 3) := by decide +kernel
theorem d_Content_shorten_26 : decode prog_2_method_2_code 26 = .ok (.arraylength, 1) := by decide +kernel
theorem d_Content_shorten_27 : decode prog_2_method_2_code 27 = .ok (.if_icmp .ge 20, 3) := by decide +kernel
theorem d_Content_shorten_30 : decode prog_2_method_2_code 30 = .ok (.aload_n 2, 1) := by decide +kernel
theorem d_Content_shorten_31 : decode prog_2_method_2_code 31 = .ok (.aload_n 0, 1) := by decide +kernel
theorem d_Content_shorten_32 : decode prog_2_method_2_code 32 = .ok (.getfield 7, 3) := by decide +kernel
theorem d_Content_shorten_35 : decode prog_2_method_2_code 35 = .ok (.iload 4, 2) := by decide +kernel
theorem d_Content_shorten_37 : decode prog_2_method_2_code 37 = .ok (.iaload, 1) := by decide +kernel
theorem d_Content_shorten_38 : decode prog_2_method_2_code 38 = .ok (.invokevirtual 23, 3) := by decide +kernel
theorem d_Content_shorten_41 : decode prog_2_method_2_code 41 = .ok (.iinc 4 1, 3) := by decide +kernel
theorem d_Content_shorten_44 : decode prog_2_method_2_code 44 = .ok (.goto (-30), 3) := by decide +kernel
theorem d_Content_shorten_47 : decode prog_2_method_2_code 47 = .ok (.aload_n 0, 1) := by decide +kernel
theorem d_Content_shorten_48 : decode prog_2_method_2_code 48 = .ok (.iload_n 1, 1) := by decide +kernel
theorem d_Content_shorten_49 : decode prog_2_method_2_code 49 = .ok (.putfield 13, 3) := by decide +kernel
theorem d_Content_shorten_52 : decode prog_2_method_2_code 52 = .ok (.return_, 1) := by decide +kernel
theorem d_Content_become_0 : decode prog_2_method_3_code 0 = .ok (.aload_n 0, 1) := by decide +kernel
theorem d_Content_become_1 : decode prog_2_method_3_code 1 = .ok (.iconst 0, 1) := by decide +kernel
theorem d_Content_become_2 : decode prog_2_method_3_code 2 = .ok (.aload_n 2, 1) := by decide +kernel
theorem d_Content_become_3 : decode prog_2_method_3_code 3 = .ok (.invokevirtual 29, 3) := by decide +kernel
theorem d_Content_become_6 : decode prog_2_method_3_code 6 = .ok (.aload_n 1, 1) := by decide +kernel
theorem d_Content_become_7 : decode prog_2_method_3_code 7 = .ok (.getfield 13, 3) := by decide +kernel
theorem d_Content_become_10 : decode prog_2_method_3_code 10 = .ok (.invokestatic 17, 3) := by decide +kernel
theorem d_Content_become_13 : decode prog_2_method_3_code 13 = .ok (.istore_n 3, 1) := by decide +kernel
theorem d_Content_become_14 : decode prog_2_method_3_code 14 = .ok (.iconst 0, 1) := by decide +kernel
theorem d_Content_become_15 : decode prog_2_method_3_code 15 = .ok (.istore 4, 2) := by decide +kernel
theorem d_Content_become_17 : decode prog_2_method_3_code 17 = .ok (.iload 4, 2) := by decide +kernel
theorem d_Content_become_19 : decode prog_2_method_3_code 19 = .ok (.iload_n 3, 1) := by decide +kernel
theorem d_Content_become_20 : decode prog_2_method_3_code 20 = .ok (.if_icmp .ge 44, 3) := by decide +kernel
theorem d_Content_become_23 : decode prog_2_method_3_code 23 = .ok (.iload 4, 2) := by decide +kernel
theorem d_Content_become_25 : decode prog_2_method_3_code 25 = .ok (.aload_n 0, 1) := by decide +kernel
theorem d_Content_become_26 : decode prog_2_method_3_code 26 = .ok (.getfield 7, 3) := by decide +kernel
theorem d_Content_become_29 : decode prog_2_method_3_code 29 = .ok (.arraylength, 1) := by decide +kernel
theorem d_Content_become_30 : decode prog_2_method_3_code 30 = .ok (.if_icmp .ge 34, 3) := by decide +kernel
theorem d_Content_become_33 : decode prog_2_method_3_code 33 = .ok (.aload_n 0, 1) := by decide +kernel
theorem d_Content_become_34 : decode prog_2_method_3_code 34 = .ok (.getfield 7, 3) := by decide +kernel
theorem d_Content_become_37 : decode prog_2_method_3_code 37 = .ok (.iload 4, 2) := by decide +kernel
theorem d_Content_become_39 : decode prog_2_method_3_code 39 = .ok (.aload_n 1, 1) := by decide +kernel
theorem d_Content_become_40 : decode prog_2_method_3_code 40 = .ok (.getfield 7, 3) := by decide +kernel
theorem d_Content_become_43 : decode prog_2_method_3_code 43 = .ok (.iload 4, 2) := by decide +kernel
theorem d_Content_become_45 : decode prog_2_method_3_code 45 = .ok (.iaload, 1) := by decide +kernel
theorem d_Content_become_46 : decode prog_2_method_3_code 46 = .ok (.iastore, 1) := by decide +kernel
theorem d_Content_become_47 : decode prog_2_method_3_code 47 = .ok (.aload_n 2, 1) := by decide +kernel
theorem d_Content_become_48 : decode prog_2_method_3_code 48 = .ok (.aload_n 0, 1) := by decide +kernel
theorem d_Content_become_49 : decode prog_2_method_3_code 49 = .ok (.getfield 7, 3) := by decide +kernel
theorem d_Content_become_52 : decode prog_2_method_3_code 52 = .ok (.iload 4, 2) := by decide +kernel
theorem d_Content_become_54 : decode prog_2_method_3_code 54 = .ok (.iaload, 1) := by decide +kernel
theorem d_Content_become_55 : decode prog_2_method_3_code 55 = .ok (.invokevirtual 33, 3) := by decide +kernel
theorem d_Content_become_58 : decode prog_2_method_3_code 58 = .ok (.iinc 4 1, 3) := by decide +kernel
theorem d_Content_become_61 : decode prog_2_method_3_code 61 = .ok (.goto (-44), 3) := by decide +kernel
theorem d_Content_become_64 : decode prog_2_method_3_code 64 = .ok (.aload_n 0, 1) := by decide +kernel
theorem d_Content_become_65 : decode prog_2_method_3_code 65 = .ok (.aload_n 1, 1) := by decide +kernel
theorem d_Content_become_66 : decode prog_2_method_3_code 66 = .ok (.getfield 13, 3) := by decide +kernel
theorem d_Content_become_69 : decode prog_2_method_3_code 69 = .ok (.putfield 13, 3) := by decide +kernel
theorem d_Content_become_72 : decode prog_2_method_3_code 72 = .ok (.aload_n 0, 1) := by decide +kernel
theorem d_Content_become_73 : decode prog_2_method_3_code 73 = .ok (.aload_n 1, 1) := by decide +kernel
theorem d_Content_become_74 : decode prog_2_method_3_code 74 = .ok (.getfield 36, 3) := by decide +kernel
theorem d_Content_become_77 : decode prog_2_method_3_code 77 = .ok (.putfield 36, 3) := by decide +kernel
theorem d_Content_become_80 : decode prog_2_method_3_code 80 = .ok (.return_, 1) := by decide +kernel
theorem d_DiskFile_init_0 : decode prog_3_method_1_code 0 = .ok (.aload_n 0, 1) := by decide +kernel
theorem d_DiskFile_init_1 : decode prog_3_method_1_code 1 = .ok (.invokespecial 3, 3) := by decide +kernel
theorem d_DiskFile_init_4 : decode prog_3_method_1_code 4 = .ok (.aload_n 0, 1) := by decide +kernel
theorem d_DiskFile_init_5 : decode prog_3_method_1_code 5 = .ok (.aload_n 1, 1) := by decide +kernel
theorem d_DiskFile_init_6 : decode prog_3_method_1_code 6 = .ok (.putfield 9, 3) := by decide +kernel
theorem d_DiskFile_init_9 : decode prog_3_method_1_code 9 = .ok (.aload_n 0, 1) := by decide +kernel
theorem d_DiskFile_init_10 : decode prog_3_method_1_code 10 = .ok (.new 15, 3) := by decide +kernel
theorem d_DiskFile_init_13 : decode prog_3_method_1_code 13 = .ok (.dup, 1) := by decide +kernel
theorem d_DiskFile_init_14 : decode prog_3_method_1_code 14 = .ok (.iload_n 2, 1) := by decide +kernel
theorem d_DiskFile_init_15 : decode prog_3_method_1_code 15 = .ok (.invokespecial 17, 3) := by decide +kernel
theorem d_DiskFile_init_18 : decode prog_3_method_1_code 18 = .ok (.putfield 20, 3) := by decide +kernel
theorem d_DiskFile_init_21 : decode prog_3_method_1_code 21 = .ok (.aload_n 0, 1) := by decide +kernel
theorem d_DiskFile_init_22 : decode prog_3_method_1_code 22 = .ok (.new 15, 3) := by decide +kernel
theorem d_DiskFile_init_25 : decode prog_3_method_1_code 25 = .ok (.dup, 1) := by decide +kernel
theorem d_DiskFile_init_26 : decode prog_3_method_1_code 26 = .ok (.iload_n 2, 1) := by decide +kernel
theorem d_DiskFile_init_27 : decode prog_3_method_1_code 27 = .ok (.invokespecial 17, 3) := by decide +kernel
theorem d_DiskFile_init_30 : decode prog_3_method_1_code 30 = .ok (.putfield 24, 3) := by decide +kernel
theorem d_DiskFile_init_33 : decode prog_3_method_1_code 33 = .ok (.return_, 1) := by decide +kernel
theorem d_DiskFile_isShared_0 : decode prog_3_method_2_code 0 = .ok (.iload_n 1, 1) := by decide +kernel
theorem d_DiskFile_isShared_1 : decode prog_3_method_2_code 1 = .ok (.ifCond .lt 56, 3) := by decide +kernel
theorem d_DiskFile_isShared_4 : decode prog_3_method_2_code 4 = .ok (.iload_n 1, 1) := by decide +kernel
theorem d_DiskFile_isShared_5 : decode prog_3_method_2_code 5 = .ok (.aload_n 0, 1) := by decide +kernel
theorem d_DiskFile_isShared_6 : decode prog_3_method_2_code 6 = .ok (.getfield 20, 3) := by decide +kernel
theorem d_DiskFile_isShared_9 : decode prog_3_method_2_code 9 = .ok (.getfield 27, 3) := by decide +kernel
theorem d_DiskFile_isShared_12 : decode prog_3_method_2_code 12 = .ok (.invokestatic 31, 3) := by decide +kernel
theorem d_DiskFile_isShared_15 : decode prog_3_method_2_code 15 = .ok (.if_icmp .ge 42, 3) := by decide +kernel
theorem d_DiskFile_isShared_18 : decode prog_3_method_2_code 18 = .ok (.iload_n 1, 1) := by decide +kernel
theorem d_DiskFile_isShared_19 : decode prog_3_method_2_code 19 = .ok (.aload_n 0, 1) := by decide +kernel
theorem d_DiskFile_isShared_20 : decode prog_3_method_2_code 20 = .ok (.getfield 24, 3) := by decide +kernel
theorem d_DiskFile_isShared_23 : decode prog_3_method_2_code 23 = .ok (.getfield 27, 3) := by decide +kernel
theorem d_DiskFile_isShared_26 : decode prog_3_method_2_code 26 = .ok (.invokestatic 31, 3) := by decide +kernel
theorem d_DiskFile_isShared_29 : decode prog_3_method_2_code 29 = .ok (.if_icmp .ge 28, 3) := by decide +kernel
theorem d_DiskFile_isShared_32 : decode prog_3_method_2_code 32 = .ok (.aload_n 0, 1) := by decide +kernel
theorem d_DiskFile_isShared_33 : decode prog_3_method_2_code 33 = .ok (.getfield 20, 3) := by decide +kernel
theorem d_DiskFile_isShared_36 : decode prog_3_method_2_code 36 = .ok (.getfield 35, 3) := by decide +kernel
theorem d_DiskFile_isShared_39 : decode prog_3_method_2_code 39 = .ok (.iload_n 1, 1) := by decide +kernel
theorem d_DiskFile_isShared_40 : decode prog_3_method_2_code 40 = .ok (.iaload, 1) := by decide +kernel
theorem d_DiskFile_isShared_41 : decode prog_3_method_2_code 41 = .ok (.aload_n 0, 1) := by decide +kernel
theorem d_DiskFile_isShared_42 : decode prog_3_method_2_code 42 = .ok (.getfield 24, 3) := by decide +kernel
theorem d_DiskFile_isShared_45 : decode prog_3_method_2_code 45 = .ok (.getfield 35, 3) := by decide +kernel
theorem d_DiskFile_isShared_48 : decode prog_3_method_2_code 48 = .ok (.iload_n 1, 1) := by decide +kernel
theorem d_DiskFile_isShared_49 : decode prog_3_method_2_code 49 = .ok (.iaload, 1) := by decide +kernel
theorem d_DiskFile_isShared_50 : decode prog_3_method_2_code 50 = .ok (.if_icmp .ne 7, 3) := by decide +kernel
theorem d_DiskFile_isShared_53 : decode prog_3_method_2_code 53 = .ok (.iconst 1, 1) := by decide +kernel
theorem d_DiskFile_isShared_54 : decode prog_3_method_2_code 54 = .ok (.goto 4, 3) := by decide +kernel
theorem d_DiskFile_isShared_57 : decode prog_3_method_2_code 57 = .ok (.iconst 0, 1) := by decide +kernel
theorem d_DiskFile_isShared_58 : decode prog_3_method_2_code 58 = .ok (.ireturn, 1) := by decide +kernel
theorem d_DiskFile_mustCopyLastPage_0 : decode prog_3_method_3_code 0 = .ok (.aload_n 0, 1) := by decide +kernel
theorem d_DiskFile_mustCopyLastPage_1 : decode prog_3_method_3_code 1 = .ok (.getfield 20, 3) := by decide +kernel
theorem d_DiskFile_mustCopyLastPage_4 : decode prog_3_method_3_code 4 = .ok (.getfield 27, 3) := by decide +kernel
theorem d_DiskFile_mustCopyLastPage_7 : decode prog_3_method_3_code 7 = .ok (.bipush 64, 2) := by decide +kernel
theorem d_DiskFile_mustCopyLastPage_9 : decode prog_3_method_3_code 9 = .ok (.irem, 1) := by decide +kernel
theorem d_DiskFile_mustCopyLastPage_10 : decode prog_3_method_3_code 10 = .ok (.ifCond .eq 24, 3) := by decide +kernel
theorem d_DiskFile_mustCopyLastPage_13 : decode prog_3_method_3_code 13 = .ok (.aload_n 0, 1) := by decide +kernel
theorem d_DiskFile_mustCopyLastPage_14 : decode prog_3_method_3_code 14 = .ok (.aload_n 0, 1) := by decide +kernel
theorem d_DiskFile_mustCopyLastPage_15 : decode prog_3_method_3_code 15 = .ok (.getfield 20, 3) := by decide +kernel
theorem d_DiskFile_mustCopyLastPage_18 : decode prog_3_method_3_code 18 = .ok (.getfield 27, 3) := by decide +kernel
theorem d_DiskFile_mustCopyLastPage_21 : decode prog_3_method_3_code 21 = .ok (.bipush 64, 2) := by decide +kernel
theorem d_DiskFile_mustCopyLastPage_23 : decode prog_3_method_3_code 23 = .ok (.idiv, 1) := by decide +kernel
theorem d_DiskFile_mustCopyLastPage_24 : decode prog_3_method_3_code 24 = .ok (.invokevirtual 39, 3) := by decide +kernel
theorem d_DiskFile_mustCopyLastPage_27 : decode prog_3_method_3_code 27 = .ok (.ifCond .eq 7, 3) := by decide +kernel
theorem d_DiskFile_mustCopyLastPage_30 : decode prog_3_method_3_code 30 = .ok (.iconst 1, 1) := by decide +kernel
theorem d_DiskFile_mustCopyLastPage_31 : decode prog_3_method_3_code 31 = .ok (.goto 4, 3) := by decide +kernel
theorem d_DiskFile_mustCopyLastPage_34 : decode prog_3_method_3_code 34 = .ok (.iconst 0, 1) := by decide +kernel
theorem d_DiskFile_mustCopyLastPage_35 : decode prog_3_method_3_code 35 = .ok (.ireturn, 1) := by decide +kernel
theorem d_DiskFile_canExtend_0 : decode prog_3_method_4_code 0 = .ok (.aload_n 0, 1) := by decide +kernel
theorem d_DiskFile_canExtend_1 : decode prog_3_method_4_code 1 = .ok (.getfield 20, 3) := by decide +kernel
theorem d_DiskFile_canExtend_4 : decode prog_3_method_4_code 4 = .ok (.getfield 27, 3) := by decide +kernel
theorem d_DiskFile_canExtend_7 : decode prog_3_method_4_code 7 = .ok (.iload_n 1, 1) := by decide +kernel
theorem d_DiskFile_canExtend_8 : decode prog_3_method_4_code 8 = .ok (.iadd, 1) := by decide +kernel
theorem d_DiskFile_canExtend_9 : decode prog_3_method_4_code 9 = .ok (.invokestatic 31, 3) := by decide +kernel
theorem d_DiskFile_canExtend_12 : decode prog_3_method_4_code 12 = .ok (.istore_n 2, 1) := by decide +kernel
theorem d_DiskFile_canExtend_13 : decode prog_3_method_4_code 13 = .ok (.iload_n 2, 1) := by decide +kernel
theorem d_DiskFile_canExtend_14 : decode prog_3_method_4_code 14 = .ok (.aload_n 0, 1) := by decide +kernel
theorem d_DiskFile_canExtend_15 : decode prog_3_method_4_code 15 = .ok (.getfield 20, 3) := by decide +kernel
theorem d_DiskFile_canExtend_18 : decode prog_3_method_4_code 18 = .ok (.getfield 27, 3) := by decide +kernel
theorem d_DiskFile_canExtend_21 : decode prog_3_method_4_code 21 = .ok (.invokestatic 31, 3) := by decide +kernel
theorem d_DiskFile_canExtend_24 : decode prog_3_method_4_code 24 = .ok (.isub, 1) := by decide +kernel
theorem d_DiskFile_canExtend_25 : decode prog_3_method_4_code 25 = .ok (.aload_n 0, 1) := by decide +kernel
theorem d_DiskFile_canExtend_26 : decode prog_3_method_4_code 26 = .ok (.invokevirtual 43, 3) := by decide +kernel
theorem d_DiskFile_canExtend_29 : decode prog_3_method_4_code 29 = .ok (.ifCond .eq 7, 3) := by decide +kernel
theorem d_DiskFile_canExtend_32 : decode prog_3_method_4_code 32 = .ok (.iconst 1, 1) := by decide +kernel
theorem d_DiskFile_canExtend_33 : decode prog_3_method_4_code 33 = .ok (.goto 4, 3) := by decide +kernel
theorem d_DiskFile_canExtend_36 : decode prog_3_method_4_code 36 = .ok (.iconst 0, 1) := by decide +kernel
theorem d_DiskFile_canExtend_37 : decode prog_3_method_4_code 37 = .ok (.iadd, 1) := by decide +kernel
theorem d_DiskFile_canExtend_38 : decode prog_3_method_4_code 38 = .ok (.istore_n 3, 1) := by decide +kernel
theorem d_DiskFile_canExtend_39 : decode prog_3_method_4_code 39 = .ok (.iload_n 2, 1) := by decide +kernel
theorem d_DiskFile_canExtend_40 : decode prog_3_method_4_code 40 = .ok (.sipush 400, 3) := by decide +kernel
theorem d_DiskFile_canExtend_43 : decode prog_3_method_4_code 43 = .ok (.if_icmp .gt 18, 3) := by decide +kernel
theorem d_DiskFile_canExtend_46 : decode prog_3_method_4_code 46 = .ok (.iload_n 3, 1) := by decide +kernel
theorem d_DiskFile_canExtend_47 : decode prog_3_method_4_code 47 = .ok (.aload_n 0, 1) := by decide +kernel
theorem d_DiskFile_canExtend_48 : decode prog_3_method_4_code 48 = .ok (.getfield 9, 3) := by decide +kernel
theorem d_DiskFile_canExtend_51 : decode prog_3_method_4_code 51 = .ok (.getfield 47, 3) := by decide +kernel
theorem d_DiskFile_canExtend_54 : decode prog_3_method_4_code 54 = .ok (.if_icmp .gt 7, 3) := by decide +kernel
theorem d_DiskFile_canExtend_57 : decode prog_3_method_4_code 57 = .ok (.iconst 1, 1) := by decide +kernel
theorem d_DiskFile_canExtend_58 : decode prog_3_method_4_code 58 = .ok (.goto 4, 3) := by decide +kernel
theorem d_DiskFile_canExtend_61 : decode prog_3_method_4_code 61 = .ok (.iconst 0, 1) := by decide +kernel
theorem d_DiskFile_canExtend_62 : decode prog_3_method_4_code 62 = .ok (.ireturn, 1) := by decide +kernel
theorem d_DiskFile_canRewrite_0 : decode prog_3_method_5_code 0 = .ok (.iconst 0, 1) := by decide +kernel
theorem d_DiskFile_canRewrite_1 : decode prog_3_method_5_code 1 = .ok (.istore_n 2, 1) := by decide +kernel
theorem d_DiskFile_canRewrite_2 : decode prog_3_method_5_code 2 = .ok (.aload_n 0, 1) := by decide +kernel
theorem d_DiskFile_canRewrite_3 : decode prog_3_method_5_code 3 = .ok (.getfield 20, 3) := by decide +kernel
theorem d_DiskFile_canRewrite_6 : decode prog_3_method_5_code 6 = .ok (.getfield 27, 3) := by decide +kernel
theorem d_DiskFile_canRewrite_9 : decode prog_3_method_5_code 9 = .ok (.invokestatic 31, 3) := by decide +kernel
theorem d_DiskFile_canRewrite_12 : decode prog_3_method_5_code 12 = .ok (.istore_n 3, 1) := by decide +kernel
theorem d_DiskFile_canRewrite_13 : decode prog_3_method_5_code 13 = .ok (.iconst 0, 1) := by decide +kernel
theorem d_DiskFile_canRewrite_14 : decode prog_3_method_5_code 14 = .ok (.istore 4, 2) := by decide +kernel
theorem d_DiskFile_canRewrite_16 : decode prog_3_method_5_code 16 = .ok (.iload 4, 2) := by decide +kernel
theorem d_DiskFile_canRewrite_18 : decode prog_3_method_5_code 18 = .ok (.iload_n 3, 1) := by decide +kernel
theorem d_DiskFile_canRewrite_19 : decode prog_3_method_5_code 19 = .ok (.if_icmp .ge 26, 3) := by decide +kernel
theorem d_DiskFile_canRewrite_22 : decode prog_3_method_5_code 22 = .ok (.iload_n 2, 1) := by decide +kernel
theorem d_DiskFile_canRewrite_23 : decode prog_3_method_5_code 23 = .ok (.aload_n 0, 1) := by decide +kernel
theorem d_DiskFile_canRewrite_24 : decode prog_3_method_5_code 24 = .ok (.iload 4, 2) := by decide +kernel
theorem d_DiskFile_canRewrite_26 : decode prog_3_method_5_code 26 = .ok (.invokevirtual 39, 3) := by decide +kernel
theorem d_DiskFile_canRewrite_29 : decode prog_3_method_5_code 29 = .ok (.ifCond .eq 7, 3) := by decide +kernel
theorem d_DiskFile_canRewrite_32 : decode prog_3_method_5_code 32 = .ok (.iconst 0, 1) := by decide +kernel
theorem d_DiskFile_canRewrite_33 : decode prog_3_method_5_code 33 = .ok (.goto 4, 3) := by decide +kernel
theorem d_DiskFile_canRewrite_36 : decode prog_3_method_5_code 36 = .ok (.iconst 1, 1) := by decide +kernel
theorem d_DiskFile_canRewrite_37 : decode prog_3_method_5_code 37 = .ok (.iadd, 1) := by decide +kernel
theorem d_DiskFile_canRewrite_38 : decode prog_3_method_5_code 38 = .ok (.istore_n 2, 1) := by decide +kernel
theorem d_DiskFile_canRewrite_39 : decode prog_3_method_5_code 39 = .ok (.iinc 4 1, 3) := by decide +kernel
theorem d_DiskFile_canRewrite_42 : decode prog_3_method_5_code 42 = .ok (.goto (-26), 3) := by decide +kernel
theorem d_DiskFile_canRewrite_45 : decode prog_3_method_5_code 45 = .ok (.iload_n 1, 1) := by decide +kernel
theorem d_DiskFile_canRewrite_46 : decode prog_3_method_5_code 46 = .ok (.invokestatic 31, 3) := by decide +kernel
theorem d_DiskFile_canRewrite_49 : decode prog_3_method_5_code 49 = .ok (.istore 4, 2) := by decide +kernel
theorem d_DiskFile_canRewrite_51 : decode prog_3_method_5_code 51 = .ok (.iload 4, 2) := by decide +kernel
theorem d_DiskFile_canRewrite_53 : decode prog_3_method_5_code 53 = .ok (.sipush 400, 3) := by decide +kernel
theorem d_DiskFile_canRewrite_56 : decode prog_3_method_5_code 56 = .ok (.if_icmp .gt 21, 3) := by decide +kernel
theorem d_DiskFile_canRewrite_59 : decode prog_3_method_5_code 59 = .ok (.iload 4, 2) := by decide +kernel
theorem d_DiskFile_canRewrite_61 : decode prog_3_method_5_code 61 = .ok (.aload_n 0, 1) := by decide +kernel
theorem d_DiskFile_canRewrite_62 : decode prog_3_method_5_code 62 = .ok (.getfield 9, 3) := by decide +kernel
theorem d_DiskFile_canRewrite_65 : decode prog_3_method_5_code 65 = .ok (.getfield 47, 3) := by decide +kernel
theorem d_DiskFile_canRewrite_68 : decode prog_3_method_5_code 68 = .ok (.iload_n 2, 1) := by decide +kernel
theorem d_DiskFile_canRewrite_69 : decode prog_3_method_5_code 69 = .ok (.iadd, 1) := by decide +kernel
theorem d_DiskFile_canRewrite_70 : decode prog_3_method_5_code 70 = .ok (.if_icmp .gt 7, 3) := by decide +kernel
theorem d_DiskFile_canRewrite_73 : decode prog_3_method_5_code 73 = .ok (.iconst 1, 1) := by decide +kernel
theorem d_DiskFile_canRewrite_74 : decode prog_3_method_5_code 74 = .ok (.goto 4, 3) := by decide +kernel
theorem d_DiskFile_canRewrite_77 : decode prog_3_method_5_code 77 = .ok (.iconst 0, 1) := by decide +kernel
theorem d_DiskFile_canRewrite_78 : decode prog_3_method_5_code 78 = .ok (.ireturn, 1) := by decide +kernel
theorem d_DiskFile_write_0 : decode prog_3_method_6_code 0 = .ok (.iload_n 2, 1) := by decide +kernel
theorem d_DiskFile_write_1 : decode prog_3_method_6_code 1 = .ok (.ifCond .le 14, 3) := by decide +kernel
theorem d_DiskFile_write_4 : decode prog_3_method_6_code 4 = .ok (.aload_n 0, 1) := by decide +kernel
theorem d_DiskFile_write_5 : decode prog_3_method_6_code 5 = .ok (.invokevirtual 43, 3) := by decide +kernel
theorem d_DiskFile_write_8 : decode prog_3_method_6_code 8 = .ok (.ifCond .eq 7, 3) := by decide +kernel
theorem d_DiskFile_write_11 : decode prog_3_method_6_code 11 = .ok (.aload_n 0, 1) := by decide +kernel
theorem d_DiskFile_write_12 : decode prog_3_method_6_code 12 = .ok (.invokevirtual 52, 3) := by decide +kernel
theorem d_DiskFile_write_15 : decode prog_3_method_6_code 15 = .ok (.aload_n 0, 1) := by decide +kernel
theorem d_DiskFile_write_16 : decode prog_3_method_6_code 16 = .ok (.getfield 20, 3) := by decide +kernel
theorem d_DiskFile_write_19 : decode prog_3_method_6_code 19 = .ok (.iconst 1, 1) := by decide +kernel
theorem d_DiskFile_write_20 : decode prog_3_method_6_code 20 = .ok (.putfield 55, 3) := by decide +kernel
theorem d_DiskFile_write_23 : decode prog_3_method_6_code 23 = .ok (.iconst 0, 1) := by decide +kernel
theorem d_DiskFile_write_24 : decode prog_3_method_6_code 24 = .ok (.istore_n 3, 1) := by decide +kernel
theorem d_DiskFile_write_25 : decode prog_3_method_6_code 25 = .ok (.iconst 0, 1) := by decide +kernel
theorem d_DiskFile_write_26 : decode prog_3_method_6_code 26 = .ok (.istore 4, 2) := by decide +kernel
theorem d_DiskFile_write_28 : decode prog_3_method_6_code 28 = .ok (.iload 4, 2) := by decide +kernel
theorem d_DiskFile_write_30 : decode prog_3_method_6_code 30 = .ok (.sipush 400, 3) := by decide +kernel
theorem d_DiskFile_write_33 : decode prog_3_method_6_code 33 = .ok (.if_icmp .gt 136, 3) := by decide +kernel
theorem d_DiskFile_write_36 : decode prog_3_method_6_code 36 = .ok (.iload_n 3, 1) := by decide +kernel
theorem d_DiskFile_write_37 : decode prog_3_method_6_code 37 = .ok (.iload_n 2, 1) := by decide +kernel
theorem d_DiskFile_write_38 : decode prog_3_method_6_code 38 = .ok (.if_icmp .ge 131, 3) := by decide +kernel
theorem d_DiskFile_write_41 : decode prog_3_method_6_code 41 = .ok (.aload_n 0, 1) := by decide +kernel
theorem d_DiskFile_write_42 : decode prog_3_method_6_code 42 = .ok (.getfield 20, 3) := by decide +kernel
theorem d_DiskFile_write_45 : decode prog_3_method_6_code 45 = .ok (.getfield 27, 3) := by decide +kernel
theorem d_DiskFile_write_48 : decode prog_3_method_6_code 48 = .ok (.bipush 64, 2) := by decide +kernel
theorem d_DiskFile_write_50 : decode prog_3_method_6_code 50 = .ok (.idiv, 1) := by decide +kernel
theorem d_DiskFile_write_51 : decode prog_3_method_6_code 51 = .ok (.istore 5, 2) := by decide +kernel
theorem d_DiskFile_write_53 : decode prog_3_method_6_code 53 = .ok (.aload_n 0, 1) := by decide +kernel
theorem d_DiskFile_write_54 : decode prog_3_method_6_code 54 = .ok (.getfield 20, 3) := by decide +kernel
theorem d_DiskFile_write_57 : decode prog_3_method_6_code 57 = .ok (.getfield 27, 3) := by decide +kernel
theorem d_DiskFile_write_60 : decode prog_3_method_6_code 60 = .ok (.bipush 64, 2) := by decide +kernel
theorem d_DiskFile_write_62 : decode prog_3_method_6_code 62 = .ok (.irem, 1) := by decide +kernel
theorem d_DiskFile_write_63 : decode prog_3_method_6_code 63 = .ok (.istore 6, 2) := by decide +kernel
theorem d_DiskFile_write_65 : decode prog_3_method_6_code 65 = .ok (.iload 5, 2) := by decide +kernel
theorem d_DiskFile_write_67 : decode prog_3_method_6_code 67 = .ok (.aload_n 0, 1) := by decide +kernel
theorem d_DiskFile_write_68 : decode prog_3_method_6_code 68 = .ok (.getfield 20, 3) := by decide +kernel
theorem d_DiskFile_write_71 : decode prog_3_method_6_code 71 = .ok (.getfield 35, 3) := by decide +kernel
theorem d_DiskFile_write_74 : decode prog_3_method_6_code 74 = .ok (.arraylength, 1) := by decide +kernel
theorem d_DiskFile_write_75 : decode prog_3_method_6_code 75 = .ok (.if_icmp .lt 4, 3) := by decide +kernel
theorem d_DiskFile_write_78 : decode prog_3_method_6_code 78 = .ok (.return_, 1) := by decide +kernel
theorem d_DiskFile_write_79 : decode prog_3_method_6_code 79 = .ok (.iload 6, 2) := by decide +kernel
theorem d_DiskFile_write_81 : decode prog_3_method_6_code 81 = .ok (.ifCond .ne 20, 3) := by decide +kernel
theorem d_DiskFile_write_84 : decode prog_3_method_6_code 84 = .ok (.aload_n 0, 1) := by decide +kernel
theorem d_DiskFile_write_85 : decode prog_3_method_6_code 85 = .ok (.getfield 20, 3) := by decide +kernel
theorem d_DiskFile_write_88 : decode prog_3_method_6_code 88 = .ok (.getfield 35, 3) := by decide +kernel
theorem d_DiskFile_write_91 : decode prog_3_method_6_code 91 = .ok (.iload 5, 2) := by decide +kernel
theorem d_DiskFile_write_93 : decode prog_3_method_6_code 93 = .ok (.aload_n 0, 1) := by decide +kernel
theorem d_DiskFile_write_94 : decode prog_3_method_6_code 94 = .ok (.getfield 9, 3) := by decide +kernel
theorem d_DiskFile_write_97 : decode prog_3_method_6_code 97 = .ok (.invokevirtual 59, 3) := by decide +kernel
theorem d_DiskFile_write_100 : decode prog_3_method_6_code 100 = .ok (.iastore, 1) := by decide +kernel
theorem d_DiskFile_write_101 : decode prog_3_method_6_code 101 = .ok (.bipush 64, 2) := by decide +kernel
theorem d_DiskFile_write_103 : decode prog_3_method_6_code 103 = .ok (.iload 6, 2) := by decide +kernel
theorem d_DiskFile_write_105 : decode prog_3_method_6_code 105 = .ok (.isub, 1) := by decide +kernel
theorem d_DiskFile_write_106 : decode prog_3_method_6_code 106 = .ok (.iload_n 2, 1) := by decide +kernel
theorem d_DiskFile_write_107 : decode prog_3_method_6_code 107 = .ok (.iload_n 3, 1) := by decide +kernel
theorem d_DiskFile_write_108 : decode prog_3_method_6_code 108 = .ok (.isub, 1) := by decide +kernel
theorem d_DiskFile_write_109 : decode prog_3_method_6_code 109 = .ok (.invokestatic 63, 3) := by decide +kernel
theorem d_DiskFile_write_112 : decode prog_3_method_6_code 112 = .ok (.istore 7, 2) := by decide +kernel
theorem d_DiskFile_write_114 : decode prog_3_method_6_code 114 = .ok (.aload_n 1, 1) := by decide +kernel
theorem d_DiskFile_write_115 : decode prog_3_method_6_code 115 = .ok (.iload_n 3, 1) := by decide +kernel
theorem d_DiskFile_write_116 : decode prog_3_method_6_code 116 = .ok (.aload_n 0, 1) := by decide +kernel
theorem d_DiskFile_write_117 : decode prog_3_method_6_code 117 = .ok (.getfield 9, 3) := by decide +kernel
theorem d_DiskFile_write_120 : decode prog_3_method_6_code 120 = .ok (.getfield 69, 3) := by decide +kernel
theorem d_DiskFile_write_123 : decode prog_3_method_6_code 123 = .ok (.aload_n 0, 1) := by decide +kernel
theorem d_DiskFile_write_124 : decode prog_3_method_6_code 124 = .ok (.getfield 20, 3) := by decide +kernel
theorem d_DiskFile_write_127 : decode prog_3_method_6_code 127 = .ok (.getfield 35, 3) := by decide +kernel
theorem d_DiskFile_write_130 : decode prog_3_method_6_code 130 = .ok (.iload 5, 2) := by decide +kernel
theorem d_DiskFile_write_132 : decode prog_3_method_6_code 132 = .ok (.iaload, 1) := by decide +kernel
theorem d_DiskFile_write_133 : decode prog_3_method_6_code 133 = .ok (.bipush 64, 2) := by decide +kernel
theorem d_DiskFile_write_135 : decode prog_3_method_6_code 135 = .ok (.imul, 1) := by decide +kernel
theorem d_DiskFile_write_136 : decode prog_3_method_6_code 136 = .ok (.iload 6, 2) := by decide +kernel
theorem d_DiskFile_write_138 : decode prog_3_method_6_code 138 = .ok (.iadd, 1) := by decide +kernel
theorem d_DiskFile_write_139 : decode prog_3_method_6_code 139 = .ok (.iload 7, 2) := by decide +kernel
theorem d_DiskFile_write_141 : decode prog_3_method_6_code 141 = .ok (.invokestatic 73, 3) := by decide +kernel
theorem d_DiskFile_write_144 : decode prog_3_method_6_code 144 = .ok (.iload_n 3, 1) := by decide +kernel
theorem d_DiskFile_write_145 : decode prog_3_method_6_code 145 = .ok (.iload 7, 2) := by decide +kernel
theorem d_DiskFile_write_147 : decode prog_3_method_6_code 147 = .ok (.iadd, 1) := by decide +kernel
theorem d_DiskFile_write_148 : decode prog_3_method_6_code 148 = .ok (.istore_n 3, 1) := by decide +kernel
theorem d_DiskFile_write_149 : decode prog_3_method_6_code 149 = .ok (.aload_n 0, 1) := by decide +kernel
theorem d_DiskFile_write_150 : decode prog_3_method_6_code 150 = .ok (.getfield 20, 3) := by decide +kernel
theorem d_DiskFile_write_153 : decode prog_3_method_6_code 153 = .ok (.dup, 1) := by decide +kernel
theorem d_DiskFile_write_154 : decode prog_3_method_6_code 154 = .ok (.getfield 27, 3) := by decide +kernel
theorem d_DiskFile_write_157 : decode prog_3_method_6_code 157 = .ok (.iload 7, 2) := by decide +kernel
theorem d_DiskFile_write_159 : decode prog_3_method_6_code 159 = .ok (.iadd, 1) := by decide +kernel
theorem d_DiskFile_write_160 : decode prog_3_method_6_code 160 = .ok (.putfield 27, 3) := by decide +kernel
theorem d_DiskFile_write_163 : decode prog_3_method_6_code 163 = .ok (.iinc 4 1, 3) := by decide +kernel
theorem d_DiskFile_write_166 : decode prog_3_method_6_code 166 = .ok (.goto (-138), 3) := by decide +kernel
theorem d_DiskFile_write_169 : decode prog_3_method_6_code 169 = .ok (.return_, 1) := by decide +kernel
theorem d_DiskFile_copyLastPage_0 : decode prog_3_method_7_code 0 = .ok (.aload_n 0, 1) := by decide +kernel
theorem d_DiskFile_copyLastPage_1 : decode prog_3_method_7_code 1 = .ok (.getfield 20, 3) := by decide +kernel
theorem d_DiskFile_copyLastPage_4 : decode prog_3_method_7_code 4 = .ok (.getfield 27, 3) := by decide +kernel
theorem d_DiskFile_copyLastPage_7 : decode prog_3_method_7_code 7 = .ok (.bipush 64, 2) := by decide +kernel
theorem d_DiskFile_copyLastPage_9 : decode prog_3_method_7_code 9 = .ok (.idiv, 1) := by decide +kernel
theorem d_DiskFile_copyLastPage_10 : decode prog_3_method_7_code 10 = .ok (.istore_n 1, 1) := by decide +kernel
theorem d_DiskFile_copyLastPage_11 : decode prog_3_method_7_code 11 = .ok (.aload_n 0, 1) := by decide +kernel
theorem d_DiskFile_copyLastPage_12 : decode prog_3_method_7_code 12 = .ok (.getfield 20, 3) := by decide +kernel
theorem d_DiskFile_copyLastPage_15 : decode prog_3_method_7_code 15 = .ok (.getfield 35, 3) := by decide +kernel
theorem d_DiskFile_copyLastPage_18 : decode prog_3_method_7_code 18 = .ok (.iload_n 1, 1) := by decide +kernel
theorem d_DiskFile_copyLastPage_19 : decode prog_3_method_7_code 19 = .ok (.iaload, 1) := by decide +kernel
theorem d_DiskFile_copyLastPage_20 : decode prog_3_method_7_code 20 = .ok (.istore_n 2, 1) := by decide +kernel
theorem d_DiskFile_copyLastPage_21 : decode prog_3_method_7_code 21 = .ok (.aload_n 0, 1) := by decide +kernel
theorem d_DiskFile_copyLastPage_22 : decode prog_3_method_7_code 22 = .ok (.getfield 9, 3) := by decide +kernel
theorem d_DiskFile_copyLastPage_25 : decode prog_3_method_7_code 25 = .ok (.invokevirtual 59, 3) := by decide +kernel
theorem d_DiskFile_copyLastPage_28 : decode prog_3_method_7_code 28 = .ok (.istore_n 3, 1) := by decide +kernel
theorem d_DiskFile_copyLastPage_29 : decode prog_3_method_7_code 29 = .ok (.aload_n 0, 1) := by decide +kernel
theorem d_DiskFile_copyLastPage_30 : decode prog_3_method_7_code 30 = .ok (.getfield 9, 3) := by decide +kernel
theorem d_DiskFile_copyLastPage_33 : decode prog_3_method_7_code 33 = .ok (.getfield 69, 3) := by decide +kernel
theorem d_DiskFile_copyLastPage_36 : decode prog_3_method_7_code 36 = .ok (.iload_n 2, 1) := by decide +kernel
theorem d_DiskFile_copyLastPage_37 : decode prog_3_method_7_code 37 = .ok (.bipush 64, 2) := by decide +kernel
theorem d_DiskFile_copyLastPage_39 : decode prog_3_method_7_code 39 = .ok (.imul, 1) := by decide +kernel
theorem d_DiskFile_copyLastPage_40 : decode prog_3_method_7_code 40 = .ok (.aload_n 0, 1) := by decide +kernel
theorem d_DiskFile_copyLastPage_41 : decode prog_3_method_7_code 41 = .ok (.getfield 9, 3) := by decide +kernel
theorem d_DiskFile_copyLastPage_44 : decode prog_3_method_7_code 44 = .ok (.getfield 69, 3) := by decide +kernel
theorem d_DiskFile_copyLastPage_47 : decode prog_3_method_7_code 47 = .ok (.iload_n 3, 1) := by decide +kernel
theorem d_DiskFile_copyLastPage_48 : decode prog_3_method_7_code 48 = .ok (.bipush 64, 2) := by decide +kernel
theorem d_DiskFile_copyLastPage_50 : decode prog_3_method_7_code 50 = .ok (.imul, 1) := by decide +kernel
theorem d_DiskFile_copyLastPage_51 : decode prog_3_method_7_code 51 = .ok (.bipush 64, 2) := by decide +kernel
theorem d_DiskFile_copyLastPage_53 : decode prog_3_method_7_code 53 = .ok (.invokestatic 73, 3) := by decide +kernel
theorem d_DiskFile_copyLastPage_56 : decode prog_3_method_7_code 56 = .ok (.aload_n 0, 1) := by decide +kernel
theorem d_DiskFile_copyLastPage_57 : decode prog_3_method_7_code 57 = .ok (.getfield 9, 3) := by decide +kernel
theorem d_DiskFile_copyLastPage_60 : decode prog_3_method_7_code 60 = .ok (.iload_n 2, 1) := by decide +kernel
theorem d_DiskFile_copyLastPage_61 : decode prog_3_method_7_code 61 = .ok (.invokevirtual 79, 3) := by decide +kernel
theorem d_DiskFile_copyLastPage_64 : decode prog_3_method_7_code 64 = .ok (.aload_n 0, 1) := by decide +kernel
theorem d_DiskFile_copyLastPage_65 : decode prog_3_method_7_code 65 = .ok (.getfield 20, 3) := by decide +kernel
theorem d_DiskFile_copyLastPage_68 : decode prog_3_method_7_code 68 = .ok (.getfield 35, 3) := by decide +kernel
theorem d_DiskFile_copyLastPage_71 : decode prog_3_method_7_code 71 = .ok (.iload_n 1, 1) := by decide +kernel
theorem d_DiskFile_copyLastPage_72 : decode prog_3_method_7_code 72 = .ok (.iload_n 3, 1) := by decide +kernel
theorem d_DiskFile_copyLastPage_73 : decode prog_3_method_7_code 73 = .ok (.iastore, 1) := by decide +kernel
theorem d_DiskFile_copyLastPage_74 : decode prog_3_method_7_code 74 = .ok (.return_, 1) := by decide +kernel
theorem d_DiskFile_cutTo_0 : decode prog_3_method_8_code 0 = .ok (.iload_n 1, 1) := by decide +kernel
theorem d_DiskFile_cutTo_1 : decode prog_3_method_8_code 1 = .ok (.aload_n 0, 1) := by decide +kernel
theorem d_DiskFile_cutTo_2 : decode prog_3_method_8_code 2 = .ok (.getfield 20, 3) := by decide +kernel
theorem d_DiskFile_cutTo_5 : decode prog_3_method_8_code 5 = .ok (.getfield 27, 3) := by decide +kernel
theorem d_DiskFile_cutTo_8 : decode prog_3_method_8_code 8 = .ok (.if_icmp .ge 27, 3) := by decide +kernel
theorem d_DiskFile_cutTo_11 : decode prog_3_method_8_code 11 = .ok (.aload_n 0, 1) := by decide +kernel
theorem d_DiskFile_cutTo_12 : decode prog_3_method_8_code 12 = .ok (.getfield 20, 3) := by decide +kernel
theorem d_DiskFile_cutTo_15 : decode prog_3_method_8_code 15 = .ok (.iload_n 1, 1) := by decide +kernel
theorem d_DiskFile_cutTo_16 : decode prog_3_method_8_code 16 = .ok (.aload_n 0, 1) := by decide +kernel
theorem d_DiskFile_cutTo_17 : decode prog_3_method_8_code 17 = .ok (.getfield 9, 3) := by decide +kernel
theorem d_DiskFile_cutTo_20 : decode prog_3_method_8_code 20 = .ok (.invokevirtual 82, 3) := by decide +kernel
theorem d_DiskFile_cutTo_23 : decode prog_3_method_8_code 23 = .ok (.aload_n 0, 1) := by decide +kernel
theorem d_DiskFile_cutTo_24 : decode prog_3_method_8_code 24 = .ok (.aload_n 0, 1) := by decide +kernel
theorem d_DiskFile_cutTo_25 : decode prog_3_method_8_code 25 = .ok (.getfield 86, 3) := by decide +kernel
theorem d_DiskFile_cutTo_28 : decode prog_3_method_8_code 28 = .ok (.iload_n 1, 1) := by decide +kernel
theorem d_DiskFile_cutTo_29 : decode prog_3_method_8_code 29 = .ok (.invokestatic 63, 3) := by decide +kernel
theorem d_DiskFile_cutTo_32 : decode prog_3_method_8_code 32 = .ok (.putfield 86, 3) := by decide +kernel
theorem d_DiskFile_cutTo_35 : decode prog_3_method_8_code 35 = .ok (.return_, 1) := by decide +kernel
theorem d_DiskFile_remove_0 : decode prog_3_method_9_code 0 = .ok (.aload_n 0, 1) := by decide +kernel
theorem d_DiskFile_remove_1 : decode prog_3_method_9_code 1 = .ok (.getfield 20, 3) := by decide +kernel
theorem d_DiskFile_remove_4 : decode prog_3_method_9_code 4 = .ok (.iconst 0, 1) := by decide +kernel
theorem d_DiskFile_remove_5 : decode prog_3_method_9_code 5 = .ok (.aload_n 0, 1) := by decide +kernel
theorem d_DiskFile_remove_6 : decode prog_3_method_9_code 6 = .ok (.getfield 9, 3) := by decide +kernel
theorem d_DiskFile_remove_9 : decode prog_3_method_9_code 9 = .ok (.invokevirtual 82, 3) := by decide +kernel
theorem d_DiskFile_remove_12 : decode prog_3_method_9_code 12 = .ok (.aload_n 0, 1) := by decide +kernel
theorem d_DiskFile_remove_13 : decode prog_3_method_9_code 13 = .ok (.getfield 20, 3) := by decide +kernel
theorem d_DiskFile_remove_16 : decode prog_3_method_9_code 16 = .ok (.iconst 0, 1) := by decide +kernel
theorem d_DiskFile_remove_17 : decode prog_3_method_9_code 17 = .ok (.putfield 55, 3) := by decide +kernel
theorem d_DiskFile_remove_20 : decode prog_3_method_9_code 20 = .ok (.aload_n 0, 1) := by decide +kernel
theorem d_DiskFile_remove_21 : decode prog_3_method_9_code 21 = .ok (.iconst 0, 1) := by decide +kernel
theorem d_DiskFile_remove_22 : decode prog_3_method_9_code 22 = .ok (.putfield 86, 3) := by decide +kernel
theorem d_DiskFile_remove_25 : decode prog_3_method_9_code 25 = .ok (.return_, 1) := by decide +kernel
theorem d_DiskFile_settle_0 : decode prog_3_method_10_code 0 = .ok (.aload_n 0, 1) := by decide +kernel
theorem d_DiskFile_settle_1 : decode prog_3_method_10_code 1 = .ok (.getfield 24, 3) := by decide +kernel
theorem d_DiskFile_settle_4 : decode prog_3_method_10_code 4 = .ok (.aload_n 0, 1) := by decide +kernel
theorem d_DiskFile_settle_5 : decode prog_3_method_10_code 5 = .ok (.getfield 20, 3) := by decide +kernel
theorem d_DiskFile_settle_8 : decode prog_3_method_10_code 8 = .ok (.aload_n 0, 1) := by decide +kernel
theorem d_DiskFile_settle_9 : decode prog_3_method_10_code 9 = .ok (.getfield 9, 3) := by decide +kernel
theorem d_DiskFile_settle_12 : decode prog_3_method_10_code 12 = .ok (.invokevirtual 89, 3) := by decide +kernel
theorem d_DiskFile_settle_15 : decode prog_3_method_10_code 15 = .ok (.aload_n 0, 1) := by decide +kernel
theorem d_DiskFile_settle_16 : decode prog_3_method_10_code 16 = .ok (.aload_n 0, 1) := by decide +kernel
theorem d_DiskFile_settle_17 : decode prog_3_method_10_code 17 = .ok (.getfield 20, 3) := by decide +kernel
theorem d_DiskFile_settle_20 : decode prog_3_method_10_code 20 = .ok (.getfield 27, 3) := by decide +kernel
theorem d_DiskFile_settle_23 : decode prog_3_method_10_code 23 = .ok (.putfield 86, 3) := by decide +kernel
theorem d_DiskFile_settle_26 : decode prog_3_method_10_code 26 = .ok (.return_, 1) := by decide +kernel
theorem d_DiskFile_drawnKeep_0 : decode prog_3_method_11_code 0 = .ok (.lload_n 1, 1) := by decide +kernel
theorem d_DiskFile_drawnKeep_1 : decode prog_3_method_11_code 1 = .ok (.bipush 61, 2) := by decide +kernel
theorem d_DiskFile_drawnKeep_3 : decode prog_3_method_11_code 3 = .ok (.lushr, 1) := by decide +kernel
theorem d_DiskFile_drawnKeep_4 : decode prog_3_method_11_code 4 = .ok (.lconst 0, 1) := by decide +kernel
theorem d_DiskFile_drawnKeep_5 : decode prog_3_method_11_code 5 = .ok (.lcmp, 1) := by decide +kernel
theorem d_DiskFile_drawnKeep_6 : decode prog_3_method_11_code 6 = .ok (.ifCond .ne 5, 3) := by decide +kernel
theorem d_DiskFile_drawnKeep_9 : decode prog_3_method_11_code 9 = .ok (.iconst 0, 1) := by decide +kernel
theorem d_DiskFile_drawnKeep_10 : decode prog_3_method_11_code 10 = .ok (.ireturn, 1) := by decide +kernel
theorem d_DiskFile_drawnKeep_11 : decode prog_3_method_11_code 11 = .ok (.lload_n 1, 1) := by decide +kernel
theorem d_DiskFile_drawnKeep_12 : decode prog_3_method_11_code 12 = .ok (.bipush 33, 2) := by decide +kernel
theorem d_DiskFile_drawnKeep_14 : decode prog_3_method_11_code 14 = .ok (.lushr, 1) := by decide +kernel
theorem d_DiskFile_drawnKeep_15 : decode prog_3_method_11_code 15 = .ok (.l2i, 1) := by decide +kernel
theorem d_DiskFile_drawnKeep_16 : decode prog_3_method_11_code 16 = .ok (.ldc 93, 2) := by decide +kernel
theorem d_DiskFile_drawnKeep_18 : decode prog_3_method_11_code 18 = .ok (.iand, 1) := by decide +kernel
theorem d_DiskFile_drawnKeep_19 : decode prog_3_method_11_code 19 = .ok (.istore_n 3, 1) := by decide +kernel
theorem d_DiskFile_drawnKeep_20 : decode prog_3_method_11_code 20 = .ok (.iconst 1, 1) := by decide +kernel
theorem d_DiskFile_drawnKeep_21 : decode prog_3_method_11_code 21 = .ok (.iconst 2, 1) := by decide +kernel
theorem d_DiskFile_drawnKeep_22 : decode prog_3_method_11_code 22 = .ok (.aload_n 0, 1) := by decide +kernel
theorem d_DiskFile_drawnKeep_23 : decode prog_3_method_11_code 23 = .ok (.getfield 20, 3) := by decide +kernel
theorem d_DiskFile_drawnKeep_26 : decode prog_3_method_11_code 26 = .ok (.getfield 27, 3) := by decide +kernel
theorem d_DiskFile_drawnKeep_29 : decode prog_3_method_11_code 29 = .ok (.aload_n 0, 1) := by decide +kernel
theorem d_DiskFile_drawnKeep_30 : decode prog_3_method_11_code 30 = .ok (.getfield 86, 3) := by decide +kernel
theorem d_DiskFile_drawnKeep_33 : decode prog_3_method_11_code 33 = .ok (.isub, 1) := by decide +kernel
theorem d_DiskFile_drawnKeep_34 : decode prog_3_method_11_code 34 = .ok (.imul, 1) := by decide +kernel
theorem d_DiskFile_drawnKeep_35 : decode prog_3_method_11_code 35 = .ok (.iconst 1, 1) := by decide +kernel
theorem d_DiskFile_drawnKeep_36 : decode prog_3_method_11_code 36 = .ok (.iadd, 1) := by decide +kernel
theorem d_DiskFile_drawnKeep_37 : decode prog_3_method_11_code 37 = .ok (.invokestatic 94, 3) := by decide +kernel
theorem d_DiskFile_drawnKeep_40 : decode prog_3_method_11_code 40 = .ok (.istore 4, 2) := by decide +kernel
theorem d_DiskFile_drawnKeep_42 : decode prog_3_method_11_code 42 = .ok (.iconst 1, 1) := by decide +kernel
theorem d_DiskFile_drawnKeep_43 : decode prog_3_method_11_code 43 = .ok (.iload_n 3, 1) := by decide +kernel
theorem d_DiskFile_drawnKeep_44 : decode prog_3_method_11_code 44 = .ok (.iload 4, 2) := by decide +kernel
theorem d_DiskFile_drawnKeep_46 : decode prog_3_method_11_code 46 = .ok (.irem, 1) := by decide +kernel
theorem d_DiskFile_drawnKeep_47 : decode prog_3_method_11_code 47 = .ok (.iadd, 1) := by decide +kernel
theorem d_DiskFile_drawnKeep_48 : decode prog_3_method_11_code 48 = .ok (.ireturn, 1) := by decide +kernel
theorem d_DiskFile_fail_0 : decode prog_3_method_12_code 0 = .ok (.iload_n 1, 1) := by decide +kernel
theorem d_DiskFile_fail_1 : decode prog_3_method_12_code 1 = .ok (.ifCond .ne 21, 3) := by decide +kernel
theorem d_DiskFile_fail_4 : decode prog_3_method_12_code 4 = .ok (.aload_n 0, 1) := by decide +kernel
theorem d_DiskFile_fail_5 : decode prog_3_method_12_code 5 = .ok (.getfield 20, 3) := by decide +kernel
theorem d_DiskFile_fail_8 : decode prog_3_method_12_code 8 = .ok (.aload_n 0, 1) := by decide +kernel
theorem d_DiskFile_fail_9 : decode prog_3_method_12_code 9 = .ok (.getfield 24, 3) := by decide +kernel
theorem d_DiskFile_fail_12 : decode prog_3_method_12_code 12 = .ok (.aload_n 0, 1) := by decide +kernel
theorem d_DiskFile_fail_13 : decode prog_3_method_12_code 13 = .ok (.getfield 9, 3) := by decide +kernel
theorem d_DiskFile_fail_16 : decode prog_3_method_12_code 16 = .ok (.invokevirtual 89, 3) := by decide +kernel
theorem d_DiskFile_fail_19 : decode prog_3_method_12_code 19 = .ok (.goto 33, 3) := by decide +kernel
theorem d_DiskFile_fail_22 : decode prog_3_method_12_code 22 = .ok (.aload_n 0, 1) := by decide +kernel
theorem d_DiskFile_fail_23 : decode prog_3_method_12_code 23 = .ok (.getfield 86, 3) := by decide +kernel
theorem d_DiskFile_fail_26 : decode prog_3_method_12_code 26 = .ok (.i2l, 1) := by decide +kernel
theorem d_DiskFile_fail_27 : decode prog_3_method_12_code 27 = .ok (.iload_n 1, 1) := by decide +kernel
theorem d_DiskFile_fail_28 : decode prog_3_method_12_code 28 = .ok (.i2l, 1) := by decide +kernel
theorem d_DiskFile_fail_29 : decode prog_3_method_12_code 29 = .ok (.ladd, 1) := by decide +kernel
theorem d_DiskFile_fail_30 : decode prog_3_method_12_code 30 = .ok (.lconst 1, 1) := by decide +kernel
theorem d_DiskFile_fail_31 : decode prog_3_method_12_code 31 = .ok (.lsub, 1) := by decide +kernel
theorem d_DiskFile_fail_32 : decode prog_3_method_12_code 32 = .ok (.lstore_n 2, 1) := by decide +kernel
theorem d_DiskFile_fail_33 : decode prog_3_method_12_code 33 = .ok (.lload_n 2, 1) := by decide +kernel
theorem d_DiskFile_fail_34 : decode prog_3_method_12_code 34 = .ok (.aload_n 0, 1) := by decide +kernel
theorem d_DiskFile_fail_35 : decode prog_3_method_12_code 35 = .ok (.getfield 20, 3) := by decide +kernel
theorem d_DiskFile_fail_38 : decode prog_3_method_12_code 38 = .ok (.getfield 27, 3) := by decide +kernel
theorem d_DiskFile_fail_41 : decode prog_3_method_12_code 41 = .ok (.i2l, 1) := by decide +kernel
theorem d_DiskFile_fail_42 : decode prog_3_method_12_code 42 = .ok (.lcmp, 1) := by decide +kernel
theorem d_DiskFile_fail_43 : decode prog_3_method_12_code 43 = .ok (.ifCond .ge 9, 3) := by decide +kernel
theorem d_DiskFile_fail_46 : decode prog_3_method_12_code 46 = .ok (.aload_n 0, 1) := by decide +kernel
theorem d_DiskFile_fail_47 : decode prog_3_method_12_code 47 = .ok (.lload_n 2, 1) := by decide +kernel
theorem d_DiskFile_fail_48 : decode prog_3_method_12_code 48 = .ok (.l2i, 1) := by decide +kernel
theorem d_DiskFile_fail_49 : decode prog_3_method_12_code 49 = .ok (.invokevirtual 97, 3) := by decide +kernel
theorem d_DiskFile_fail_52 : decode prog_3_method_12_code 52 = .ok (.aload_n 0, 1) := by decide +kernel
theorem d_DiskFile_fail_53 : decode prog_3_method_12_code 53 = .ok (.invokevirtual 100, 3) := by decide +kernel
theorem d_DiskFile_fail_56 : decode prog_3_method_12_code 56 = .ok (.return_, 1) := by decide +kernel
theorem d_DiskFile_read_0 : decode prog_3_method_13_code 0 = .ok (.iload_n 1, 1) := by decide +kernel
theorem d_DiskFile_read_1 : decode prog_3_method_13_code 1 = .ok (.ifCond .lt 29, 3) := by decide +kernel
theorem d_DiskFile_read_4 : decode prog_3_method_13_code 4 = .ok (.iload_n 1, 1) := by decide +kernel
theorem d_DiskFile_read_5 : decode prog_3_method_13_code 5 = .ok (.aload_n 0, 1) := by decide +kernel
theorem d_DiskFile_read_6 : decode prog_3_method_13_code 6 = .ok (.getfield 20, 3) := by decide +kernel
theorem d_DiskFile_read_9 : decode prog_3_method_13_code 9 = .ok (.getfield 27, 3) := by decide +kernel
theorem d_DiskFile_read_12 : decode prog_3_method_13_code 12 = .ok (.if_icmp .ge 18, 3) := by decide +kernel
theorem d_DiskFile_read_15 : decode prog_3_method_13_code 15 = .ok (.iload_n 1, 1) := by decide +kernel
theorem d_DiskFile_read_16 : decode prog_3_method_13_code 16 = .ok (.bipush 64, 2) := by decide +kernel
theorem d_DiskFile_read_18 : decode prog_3_method_13_code 18 = .ok (.idiv, 1) := by decide +kernel
theorem d_DiskFile_read_19 : decode prog_3_method_13_code 19 = .ok (.aload_n 0, 1) := by decide +kernel
theorem d_DiskFile_read_20 : decode prog_3_method_13_code 20 = .ok (.getfield 20, 3) := by decide +kernel
theorem d_DiskFile_read_23 : decode prog_3_method_13_code 23 = .ok (.getfield 35, 3) := by decide +kernel
theorem d_DiskFile_read_26 : decode prog_3_method_13_code 26 = .ok (.arraylength, 1) := by decide +kernel
theorem d_DiskFile_read_27 : decode prog_3_method_13_code 27 = .ok (.if_icmp .lt 5, 3) := by decide +kernel
theorem d_DiskFile_read_30 : decode prog_3_method_13_code 30 = .ok (.iconst 0, 1) := by decide +kernel
theorem d_DiskFile_read_31 : decode prog_3_method_13_code 31 = .ok (.ireturn, 1) := by decide +kernel
theorem d_DiskFile_read_32 : decode prog_3_method_13_code 32 = .ok (.aload_n 0, 1) := by decide +kernel
theorem d_DiskFile_read_33 : decode prog_3_method_13_code 33 = .ok (.getfield 9, 3) := by decide +kernel
theorem d_DiskFile_read_36 : decode prog_3_method_13_code 36 = .ok (.getfield 69, 3) := by decide +kernel
theorem d_DiskFile_read_39 : decode prog_3_method_13_code 39 = .ok (.aload_n 0, 1) := by decide +kernel
theorem d_DiskFile_read_40 : decode prog_3_method_13_code 40 = .ok (.getfield 20, 3) := by decide +kernel
theorem d_DiskFile_read_43 : decode prog_3_method_13_code 43 = .ok (.getfield 35, 3) := by decide +kernel
theorem d_DiskFile_read_46 : decode prog_3_method_13_code 46 = .ok (.iload_n 1, 1) := by decide +kernel
theorem d_DiskFile_read_47 : decode prog_3_method_13_code 47 = .ok (.bipush 64, 2) := by decide +kernel
theorem d_DiskFile_read_49 : decode prog_3_method_13_code 49 = .ok (.idiv, 1) := by decide +kernel
theorem d_DiskFile_read_50 : decode prog_3_method_13_code 50 = .ok (.iaload, 1) := by decide +kernel
theorem d_DiskFile_read_51 : decode prog_3_method_13_code 51 = .ok (.bipush 64, 2) := by decide +kernel
theorem d_DiskFile_read_53 : decode prog_3_method_13_code 53 = .ok (.imul, 1) := by decide +kernel
theorem d_DiskFile_read_54 : decode prog_3_method_13_code 54 = .ok (.iload_n 1, 1) := by decide +kernel
theorem d_DiskFile_read_55 : decode prog_3_method_13_code 55 = .ok (.bipush 64, 2) := by decide +kernel
theorem d_DiskFile_read_57 : decode prog_3_method_13_code 57 = .ok (.irem, 1) := by decide +kernel
theorem d_DiskFile_read_58 : decode prog_3_method_13_code 58 = .ok (.iadd, 1) := by decide +kernel
theorem d_DiskFile_read_59 : decode prog_3_method_13_code 59 = .ok (.baload, 1) := by decide +kernel
theorem d_DiskFile_read_60 : decode prog_3_method_13_code 60 = .ok (.sipush 255, 3) := by decide +kernel
theorem d_DiskFile_read_63 : decode prog_3_method_13_code 63 = .ok (.iand, 1) := by decide +kernel
theorem d_DiskFile_read_64 : decode prog_3_method_13_code 64 = .ok (.ireturn, 1) := by decide +kernel
theorem d_DiskFile_number_0 : decode prog_3_method_14_code 0 = .ok (.lconst 0, 1) := by decide +kernel
theorem d_DiskFile_number_1 : decode prog_3_method_14_code 1 = .ok (.lstore_n 3, 1) := by decide +kernel
theorem d_DiskFile_number_2 : decode prog_3_method_14_code 2 = .ok (.iload_n 2, 1) := by decide +kernel
theorem d_DiskFile_number_3 : decode prog_3_method_14_code 3 = .ok (.iconst 1, 1) := by decide +kernel
theorem d_DiskFile_number_4 : decode prog_3_method_14_code 4 = .ok (.isub, 1) := by decide +kernel
theorem d_DiskFile_number_5 : decode prog_3_method_14_code 5 = .ok (.istore 5, 2) := by decide +kernel
theorem d_DiskFile_number_7 : decode prog_3_method_14_code 7 = .ok (.iload 5, 2) := by decide +kernel
theorem d_DiskFile_number_9 : decode prog_3_method_14_code 9 = .ok (.ifCond .lt 24, 3) := by decide +kernel
theorem d_DiskFile_number_12 : decode prog_3_method_14_code 12 = .ok (.lload_n 3, 1) := by decide +kernel
theorem d_DiskFile_number_13 : decode prog_3_method_14_code 13 = .ok (.bipush 8, 2) := by decide +kernel
theorem d_DiskFile_number_15 : decode prog_3_method_14_code 15 = .ok (.lshl, 1) := by decide +kernel
theorem d_DiskFile_number_16 : decode prog_3_method_14_code 16 = .ok (.aload_n 0, 1) := by decide +kernel
theorem d_DiskFile_number_17 : decode prog_3_method_14_code 17 = .ok (.iload_n 1, 1) := by decide +kernel
theorem d_DiskFile_number_18 : decode prog_3_method_14_code 18 = .ok (.iload 5, 2) := by decide +kernel
theorem d_DiskFile_number_20 : decode prog_3_method_14_code 20 = .ok (.iadd, 1) := by decide +kernel
theorem d_DiskFile_number_21 : decode prog_3_method_14_code 21 = .ok (.invokevirtual 103, 3) := by decide +kernel
theorem d_DiskFile_number_24 : decode prog_3_method_14_code 24 = .ok (.i2l, 1) := by decide +kernel
theorem d_DiskFile_number_25 : decode prog_3_method_14_code 25 = .ok (.lor, 1) := by decide +kernel
theorem d_DiskFile_number_26 : decode prog_3_method_14_code 26 = .ok (.lstore_n 3, 1) := by decide +kernel
theorem d_DiskFile_number_27 : decode prog_3_method_14_code 27 = .ok (.iinc 5 (-1), 3) := by decide +kernel
theorem d_DiskFile_number_30 : decode prog_3_method_14_code 30 = .ok (.goto (-23), 3) := by decide +kernel
theorem d_DiskFile_number_33 : decode prog_3_method_14_code 33 = .ok (.lload_n 3, 1) := by decide +kernel
theorem d_DiskFile_number_34 : decode prog_3_method_14_code 34 = .ok (.lreturn, 1) := by decide +kernel
theorem d_DiskFile_wholeFrame_0 : decode prog_3_method_15_code 0 = .ok (.iload_n 1, 1) := by decide +kernel
theorem d_DiskFile_wholeFrame_1 : decode prog_3_method_15_code 1 = .ok (.ifCond .lt 17, 3) := by decide +kernel
theorem d_DiskFile_wholeFrame_4 : decode prog_3_method_15_code 4 = .ok (.iload_n 1, 1) := by decide +kernel
theorem d_DiskFile_wholeFrame_5 : decode prog_3_method_15_code 5 = .ok (.aload_n 0, 1) := by decide +kernel
theorem d_DiskFile_wholeFrame_6 : decode prog_3_method_15_code 6 = .ok (.getfield 20, 3) := by decide +kernel
theorem d_DiskFile_wholeFrame_9 : decode prog_3_method_15_code 9 = .ok (.getfield 27, 3) := by decide +kernel
theorem d_DiskFile_wholeFrame_12 : decode prog_3_method_15_code 12 = .ok (.bipush 8, 2) := by decide +kernel
theorem d_DiskFile_wholeFrame_14 : decode prog_3_method_15_code 14 = .ok (.isub, 1) := by decide +kernel
theorem d_DiskFile_wholeFrame_15 : decode prog_3_method_15_code 15 = .ok (.if_icmp .le 5, 3) := by decide +kernel
theorem d_DiskFile_wholeFrame_18 : decode prog_3_method_15_code 18 = .ok (.iconst (-1), 1) := by decide +kernel
theorem d_DiskFile_wholeFrame_19 : decode prog_3_method_15_code 19 = .ok (.ireturn, 1) := by decide +kernel
theorem d_DiskFile_wholeFrame_20 : decode prog_3_method_15_code 20 = .ok (.aload_n 0, 1) := by decide +kernel
theorem d_DiskFile_wholeFrame_21 : decode prog_3_method_15_code 21 = .ok (.iload_n 1, 1) := by decide +kernel
theorem d_DiskFile_wholeFrame_22 : decode prog_3_method_15_code 22 = .ok (.iconst 4, 1) := by decide +kernel
theorem d_DiskFile_wholeFrame_23 : decode prog_3_method_15_code 23 = .ok (.invokevirtual 106, 3) := by decide +kernel
theorem d_DiskFile_wholeFrame_26 : decode prog_3_method_15_code 26 = .ok (.l2i, 1) := by decide +kernel
theorem d_DiskFile_wholeFrame_27 : decode prog_3_method_15_code 27 = .ok (.istore_n 2, 1) := by decide +kernel
theorem d_DiskFile_wholeFrame_28 : decode prog_3_method_15_code 28 = .ok (.iload_n 1, 1) := by decide +kernel
theorem d_DiskFile_wholeFrame_29 : decode prog_3_method_15_code 29 = .ok (.bipush 8, 2) := by decide +kernel
theorem d_DiskFile_wholeFrame_31 : decode prog_3_method_15_code 31 = .ok (.iadd, 1) := by decide +kernel
theorem d_DiskFile_wholeFrame_32 : decode prog_3_method_15_code 32 = .ok (.istore_n 3, 1) := by decide +kernel
theorem d_DiskFile_wholeFrame_33 : decode prog_3_method_15_code 33 = .ok (.iload_n 2, 1) := by decide +kernel
theorem d_DiskFile_wholeFrame_34 : decode prog_3_method_15_code 34 = .ok (.ifCond .lt 16, 3) := by decide +kernel
theorem d_DiskFile_wholeFrame_37 : decode prog_3_method_15_code 37 = .ok (.iload_n 2, 1) := by decide +kernel
theorem d_DiskFile_wholeFrame_38 : decode prog_3_method_15_code 38 = .ok (.aload_n 0, 1) := by decide +kernel
theorem d_DiskFile_wholeFrame_39 : decode prog_3_method_15_code 39 = .ok (.getfield 20, 3) := by decide +kernel
theorem d_DiskFile_wholeFrame_42 : decode prog_3_method_15_code 42 = .ok (.getfield 27, 3) := by decide +kernel
theorem d_DiskFile_wholeFrame_45 : decode prog_3_method_15_code 45 = .ok (.iload_n 3, 1) := by decide +kernel
theorem d_DiskFile_wholeFrame_46 : decode prog_3_method_15_code 46 = .ok (.isub, 1) := by decide +kernel
theorem d_DiskFile_wholeFrame_47 : decode prog_3_method_15_code 47 = .ok (.if_icmp .le 5, 3) := by decide +kernel
theorem d_DiskFile_wholeFrame_50 : decode prog_3_method_15_code 50 = .ok (.iconst (-1), 1) := by decide +kernel
theorem d_DiskFile_wholeFrame_51 : decode prog_3_method_15_code 51 = .ok (.ireturn, 1) := by decide +kernel
theorem d_DiskFile_wholeFrame_52 : decode prog_3_method_15_code 52 = .ok (.iconst (-1), 1) := by decide +kernel
theorem d_DiskFile_wholeFrame_53 : decode prog_3_method_15_code 53 = .ok (.istore 4, 2) := by decide +kernel
theorem d_DiskFile_wholeFrame_55 : decode prog_3_method_15_code 55 = .ok (.iconst 0, 1) := by decide +kernel
theorem d_DiskFile_wholeFrame_56 : decode prog_3_method_15_code 56 = .ok (.istore 5, 2) := by decide +kernel
theorem d_DiskFile_wholeFrame_58 : decode prog_3_method_15_code 58 = .ok (.iload 5, 2) := by decide +kernel
theorem d_DiskFile_wholeFrame_60 : decode prog_3_method_15_code 60 = .ok (.iload_n 2, 1) := by decide +kernel
theorem d_DiskFile_wholeFrame_61 : decode prog_3_method_15_code 61 = .ok (.if_icmp .ge 24, 3) := by decide +kernel
theorem d_DiskFile_wholeFrame_64 : decode prog_3_method_15_code 64 = .ok (.iload 4, 2) := by decide +kernel
theorem d_DiskFile_wholeFrame_66 : decode prog_3_method_15_code 66 = .ok (.aload_n 0, 1) := by decide +kernel
theorem d_DiskFile_wholeFrame_67 : decode prog_3_method_15_code 67 = .ok (.iload_n 3, 1) := by decide +kernel
theorem d_DiskFile_wholeFrame_68 : decode prog_3_method_15_code 68 = .ok (.iload 5, 2) := by decide +kernel
theorem d_DiskFile_wholeFrame_70 : decode prog_3_method_15_code 70 = .ok (.iadd, 1) := by decide +kernel
theorem d_DiskFile_wholeFrame_71 : decode prog_3_method_15_code 71 = .ok (.invokevirtual 103, 3) := by decide +kernel
theorem d_DiskFile_wholeFrame_74 : decode prog_3_method_15_code 74 = .ok (.invokestatic 110, 3) := by decide +kernel
theorem d_DiskFile_wholeFrame_77 : decode prog_3_method_15_code 77 = .ok (.istore 4, 2) := by decide +kernel
theorem d_DiskFile_wholeFrame_79 : decode prog_3_method_15_code 79 = .ok (.iinc 5 1, 3) := by decide +kernel
theorem d_DiskFile_wholeFrame_82 : decode prog_3_method_15_code 82 = .ok (.goto (-24), 3) := by decide +kernel
theorem d_DiskFile_wholeFrame_85 : decode prog_3_method_15_code 85 = .ok (.iload 4, 2) := by decide +kernel
theorem d_DiskFile_wholeFrame_87 : decode prog_3_method_15_code 87 = .ok (.iconst (-1), 1) := by decide +kernel
theorem d_DiskFile_wholeFrame_88 : decode prog_3_method_15_code 88 = .ok (.ixor, 1) := by decide +kernel
theorem d_DiskFile_wholeFrame_89 : decode prog_3_method_15_code 89 = .ok (.aload_n 0, 1) := by decide +kernel
theorem d_DiskFile_wholeFrame_90 : decode prog_3_method_15_code 90 = .ok (.iload_n 1, 1) := by decide +kernel
theorem d_DiskFile_wholeFrame_91 : decode prog_3_method_15_code 91 = .ok (.iconst 4, 1) := by decide +kernel
theorem d_DiskFile_wholeFrame_92 : decode prog_3_method_15_code 92 = .ok (.iadd, 1) := by decide +kernel
theorem d_DiskFile_wholeFrame_93 : decode prog_3_method_15_code 93 = .ok (.iconst 4, 1) := by decide +kernel
theorem d_DiskFile_wholeFrame_94 : decode prog_3_method_15_code 94 = .ok (.invokevirtual 106, 3) := by decide +kernel
theorem d_DiskFile_wholeFrame_97 : decode prog_3_method_15_code 97 = .ok (.l2i, 1) := by decide +kernel
theorem d_DiskFile_wholeFrame_98 : decode prog_3_method_15_code 98 = .ok (.if_icmp .ne 7, 3) := by decide +kernel
theorem d_DiskFile_wholeFrame_101 : decode prog_3_method_15_code 101 = .ok (.iload_n 2, 1) := by decide +kernel
theorem d_DiskFile_wholeFrame_102 : decode prog_3_method_15_code 102 = .ok (.goto 4, 3) := by decide +kernel
theorem d_DiskFile_wholeFrame_105 : decode prog_3_method_15_code 105 = .ok (.iconst (-1), 1) := by decide +kernel
theorem d_DiskFile_wholeFrame_106 : decode prog_3_method_15_code 106 = .ok (.ireturn, 1) := by decide +kernel
theorem d_DiskFile_segmentFirst_0 : decode prog_3_method_16_code 0 = .ok (.aload_n 0, 1) := by decide +kernel
theorem d_DiskFile_segmentFirst_1 : decode prog_3_method_16_code 1 = .ok (.iconst 0, 1) := by decide +kernel
theorem d_DiskFile_segmentFirst_2 : decode prog_3_method_16_code 2 = .ok (.invokevirtual 113, 3) := by decide +kernel
theorem d_DiskFile_segmentFirst_5 : decode prog_3_method_16_code 5 = .ok (.bipush 16, 2) := by decide +kernel
theorem d_DiskFile_segmentFirst_7 : decode prog_3_method_16_code 7 = .ok (.if_icmp .ne 15, 3) := by decide +kernel
theorem d_DiskFile_segmentFirst_10 : decode prog_3_method_16_code 10 = .ok (.aload_n 0, 1) := by decide +kernel
theorem d_DiskFile_segmentFirst_11 : decode prog_3_method_16_code 11 = .ok (.bipush 8, 2) := by decide +kernel
theorem d_DiskFile_segmentFirst_13 : decode prog_3_method_16_code 13 = .ok (.bipush 8, 2) := by decide +kernel
theorem d_DiskFile_segmentFirst_15 : decode prog_3_method_16_code 15 = .ok (.invokevirtual 106, 3) := by decide +kernel
theorem d_DiskFile_segmentFirst_18 : decode prog_3_method_16_code 18 = .ok (.l2i, 1) := by decide +kernel
theorem d_DiskFile_segmentFirst_19 : decode prog_3_method_16_code 19 = .ok (.goto 4, 3) := by decide +kernel
theorem d_DiskFile_segmentFirst_22 : decode prog_3_method_16_code 22 = .ok (.iconst (-1), 1) := by decide +kernel
theorem d_DiskFile_segmentFirst_23 : decode prog_3_method_16_code 23 = .ok (.ireturn, 1) := by decide +kernel
theorem d_DiskFile_termBefore_0 : decode prog_3_method_17_code 0 = .ok (.aload_n 0, 1) := by decide +kernel
theorem d_DiskFile_termBefore_1 : decode prog_3_method_17_code 1 = .ok (.bipush 16, 2) := by decide +kernel
theorem d_DiskFile_termBefore_3 : decode prog_3_method_17_code 3 = .ok (.bipush 8, 2) := by decide +kernel
theorem d_DiskFile_termBefore_5 : decode prog_3_method_17_code 5 = .ok (.invokevirtual 106, 3) := by decide +kernel
theorem d_DiskFile_termBefore_8 : decode prog_3_method_17_code 8 = .ok (.l2i, 1) := by decide +kernel
theorem d_DiskFile_termBefore_9 : decode prog_3_method_17_code 9 = .ok (.ireturn, 1) := by decide +kernel
theorem d_Entries_init_0 : decode prog_4_method_1_code 0 = .ok (.aload_n 0, 1) := by decide +kernel
theorem d_Entries_init_1 : decode prog_4_method_1_code 1 = .ok (.invokespecial 3, 3) := by decide +kernel
theorem d_Entries_init_4 : decode prog_4_method_1_code 4 = .ok (.aload_n 0, 1) := by decide +kernel
theorem d_Entries_init_5 : decode prog_4_method_1_code 5 = .ok (.sipush 301, 3) := by decide +kernel
theorem d_Entries_init_8 : decode prog_4_method_1_code 8 = .ok (.newarray .int, 2) := by decide +kernel
theorem d_Entries_init_10 : decode prog_4_method_1_code 10 = .ok (.putfield 11, 3) := by decide +kernel
theorem d_Entries_init_13 : decode prog_4_method_1_code 13 = .ok (.aload_n 0, 1) := by decide +kernel
theorem d_Entries_init_14 : decode prog_4_method_1_code 14 = .ok (.sipush 301, 3) := by decide +kernel
theorem d_Entries_init_17 : decode prog_4_method_1_code 17 = .ok (.newarray .int, 2) := by decide +kernel
theorem d_Entries_init_19 : decode prog_4_method_1_code 19 = .ok (.putfield 15, 3) := by decide +kernel
theorem d_Entries_init_22 : decode prog_4_method_1_code 22 = .ok (.aload_n 0, 1) := by decide +kernel
theorem d_Entries_init_23 : decode prog_4_method_1_code 23 = .ok (.sipush 301, 3) := by decide +kernel
theorem d_Entries_init_26 : decode prog_4_method_1_code 26 = .ok (.newarray .int, 2) := by decide +kernel
theorem d_Entries_init_28 : decode prog_4_method_1_code 28 = .ok (.putfield 18, 3) := by decide +kernel
theorem d_Entries_init_31 : decode prog_4_method_1_code 31 = .ok (.aload_n 0, 1) := by decide +kernel
theorem d_Entries_init_32 : decode prog_4_method_1_code 32 = .ok (.sipush 301, 3) := by decide +kernel
theorem d_Entries_init_35 : decode prog_4_method_1_code 35 = .ok (.newarray .int, 2) := by decide +kernel
theorem d_Entries_init_37 : decode prog_4_method_1_code 37 = .ok (.putfield 21, 3) := by decide +kernel
theorem d_Entries_init_40 : decode prog_4_method_1_code 40 = .ok (.aload_n 0, 1) := by decide +kernel
theorem d_Entries_init_41 : decode prog_4_method_1_code 41 = .ok (.sipush 301, 3) := by decide +kernel
theorem d_Entries_init_44 : decode prog_4_method_1_code 44 = .ok (.newarray .int, 2) := by decide +kernel
theorem d_Entries_init_46 : decode prog_4_method_1_code 46 = .ok (.putfield 24, 3) := by decide +kernel
theorem d_Entries_init_49 : decode prog_4_method_1_code 49 = .ok (.return_, 1) := by decide +kernel
theorem d_Entries_slot_0 : decode prog_4_method_2_code 0 = .ok (.iload_n 1, 1) := by decide +kernel
theorem d_Entries_slot_1 : decode prog_4_method_2_code 1 = .ok (.sipush 301, 3) := by decide +kernel
theorem d_Entries_slot_4 : decode prog_4_method_2_code 4 = .ok (.invokestatic 27, 3) := by decide +kernel
theorem d_Entries_slot_7 : decode prog_4_method_2_code 7 = .ok (.ireturn, 1) := by decide +kernel
theorem d_Entries_set_0 : decode prog_4_method_3_code 0 = .ok (.aload_n 0, 1) := by decide +kernel
theorem d_Entries_set_1 : decode prog_4_method_3_code 1 = .ok (.iload_n 1, 1) := by decide +kernel
theorem d_Entries_set_2 : decode prog_4_method_3_code 2 = .ok (.invokevirtual 33, 3) := by decide +kernel
theorem d_Entries_set_5 : decode prog_4_method_3_code 5 = .ok (.istore 7, 2) := by decide +kernel
theorem d_Entries_set_7 : decode prog_4_method_3_code 7 = .ok (.aload_n 0, 1) := by decide +kernel
theorem d_Entries_set_8 : decode prog_4_method_3_code 8 = .ok (.getfield 11, 3) := by decide +kernel
theorem d_Entries_set_11 : decode prog_4_method_3_code 11 = .ok (.iload 7, 2) := by decide +kernel
theorem d_Entries_set_13 : decode prog_4_method_3_code 13 = .ok (.iload_n 2, 1) := by decide +kernel
theorem d_Entries_set_14 : decode prog_4_method_3_code 14 = .ok (.iastore, 1) := by decide +kernel
theorem d_Entries_set_15 : decode prog_4_method_3_code 15 = .ok (.aload_n 0, 1) := by decide +kernel
theorem d_Entries_set_16 : decode prog_4_method_3_code 16 = .ok (.getfield 15, 3) := by decide +kernel
theorem d_Entries_set_19 : decode prog_4_method_3_code 19 = .ok (.iload 7, 2) := by decide +kernel
theorem d_Entries_set_21 : decode prog_4_method_3_code 21 = .ok (.iload_n 3, 1) := by decide +kernel
theorem d_Entries_set_22 : decode prog_4_method_3_code 22 = .ok (.iastore, 1) := by decide +kernel
theorem d_Entries_set_23 : decode prog_4_method_3_code 23 = .ok (.aload_n 0, 1) := by decide +kernel
theorem d_Entries_set_24 : decode prog_4_method_3_code 24 = .ok (.getfield 18, 3) := by decide +kernel
theorem d_Entries_set_27 : decode prog_4_method_3_code 27 = .ok (.iload 7, 2) := by decide +kernel
theorem d_Entries_set_29 : decode prog_4_method_3_code 29 = .ok (.iload 4, 2) := by decide +kernel
theorem d_Entries_set_31 : decode prog_4_method_3_code 31 = .ok (.iastore, 1) := by decide +kernel
theorem d_Entries_set_32 : decode prog_4_method_3_code 32 = .ok (.aload_n 0, 1) := by decide +kernel
theorem d_Entries_set_33 : decode prog_4_method_3_code 33 = .ok (.getfield 21, 3) := by decide +kernel
theorem d_Entries_set_36 : decode prog_4_method_3_code 36 = .ok (.iload 7, 2) := by decide +kernel
theorem d_Entries_set_38 : decode prog_4_method_3_code 38 = .ok (.iload 5, 2) := by decide +kernel
theorem d_Entries_set_40 : decode prog_4_method_3_code 40 = .ok (.iastore, 1) := by decide +kernel
theorem d_Entries_set_41 : decode prog_4_method_3_code 41 = .ok (.aload_n 0, 1) := by decide +kernel
theorem d_Entries_set_42 : decode prog_4_method_3_code 42 = .ok (.getfield 24, 3) := by decide +kernel
theorem d_Entries_set_45 : decode prog_4_method_3_code 45 = .ok (.iload 7, 2) := by decide +kernel
theorem d_Entries_set_47 : decode prog_4_method_3_code 47 = .ok (.iload 6, 2) := by decide +kernel
theorem d_Entries_set_49 : decode prog_4_method_3_code 49 = .ok (.iastore, 1) := by decide +kernel
theorem d_Entries_set_50 : decode prog_4_method_3_code 50 = .ok (.return_, 1) := by decide +kernel
theorem d_Frame_init_0 : decode prog_5_method_1_code 0 = .ok (.aload_n 0, 1) := by decide +kernel
theorem d_Frame_init_1 : decode prog_5_method_1_code 1 = .ok (.invokespecial 3, 3) := by decide +kernel
theorem d_Frame_init_4 : decode prog_5_method_1_code 4 = .ok (.aload_n 0, 1) := by decide +kernel
theorem d_Frame_init_5 : decode prog_5_method_1_code 5 = .ok (.sipush 4121, 3) := by decide +kernel
theorem d_Frame_init_8 : decode prog_5_method_1_code 8 = .ok (.newarray .byte, 2) := by decide +kernel
theorem d_Frame_init_10 : decode prog_5_method_1_code 10 = .ok (.putfield 9, 3) := by decide +kernel
theorem d_Frame_init_13 : decode prog_5_method_1_code 13 = .ok (.return_, 1) := by decide +kernel
theorem d_Frame_begin_0 : decode prog_5_method_2_code 0 = .ok (.aload_n 0, 1) := by decide +kernel
theorem d_Frame_begin_1 : decode prog_5_method_2_code 1 = .ok (.bipush 8, 2) := by decide +kernel
theorem d_Frame_begin_3 : decode prog_5_method_2_code 3 = .ok (.putfield 15, 3) := by decide +kernel
theorem d_Frame_begin_6 : decode prog_5_method_2_code 6 = .ok (.return_, 1) := by decide +kernel
theorem d_Frame_add_0 : decode prog_5_method_3_code 0 = .ok (.iload_n 3, 1) := by decide +kernel
theorem d_Frame_add_1 : decode prog_5_method_3_code 1 = .ok (.aload_n 0, 1) := by decide +kernel
theorem d_Frame_add_2 : decode prog_5_method_3_code 2 = .ok (.getfield 9, 3) := by decide +kernel
theorem d_Frame_add_5 : decode prog_5_method_3_code 5 = .ok (.arraylength, 1) := by decide +kernel
theorem d_Frame_add_6 : decode prog_5_method_3_code 6 = .ok (.aload_n 0, 1) := by decide +kernel
theorem d_Frame_add_7 : decode prog_5_method_3_code 7 = .ok (.getfield 15, 3) := by decide +kernel
theorem d_Frame_add_10 : decode prog_5_method_3_code 10 = .ok (.isub, 1) := by decide +kernel
theorem d_Frame_add_11 : decode prog_5_method_3_code 11 = .ok (.if_icmp .gt 23, 3) := by decide +kernel
theorem d_Frame_add_14 : decode prog_5_method_3_code 14 = .ok (.aload_n 0, 1) := by decide +kernel
theorem d_Frame_add_15 : decode prog_5_method_3_code 15 = .ok (.aload_n 0, 1) := by decide +kernel
theorem d_Frame_add_16 : decode prog_5_method_3_code 16 = .ok (.getfield 15, 3) := by decide +kernel
theorem d_Frame_add_19 : decode prog_5_method_3_code 19 = .ok (.lload_n 1, 1) := by decide +kernel
theorem d_Frame_add_20 : decode prog_5_method_3_code 20 = .ok (.iload_n 3, 1) := by decide +kernel
theorem d_Frame_add_21 : decode prog_5_method_3_code 21 = .ok (.invokevirtual 19, 3) := by decide +kernel
theorem d_Frame_add_24 : decode prog_5_method_3_code 24 = .ok (.aload_n 0, 1) := by decide +kernel
theorem d_Frame_add_25 : decode prog_5_method_3_code 25 = .ok (.dup, 1) := by decide +kernel
theorem d_Frame_add_26 : decode prog_5_method_3_code 26 = .ok (.getfield 15, 3) := by decide +kernel
theorem d_Frame_add_29 : decode prog_5_method_3_code 29 = .ok (.iload_n 3, 1) := by decide +kernel
theorem d_Frame_add_30 : decode prog_5_method_3_code 30 = .ok (.iadd, 1) := by decide +kernel
theorem d_Frame_add_31 : decode prog_5_method_3_code 31 = .ok (.putfield 15, 3) := by decide +kernel
theorem d_Frame_add_34 : decode prog_5_method_3_code 34 = .ok (.return_, 1) := by decide +kernel
theorem d_Frame_addBytes_0 : decode prog_5_method_4_code 0 = .ok (.iload_n 2, 1) := by decide +kernel
theorem d_Frame_addBytes_1 : decode prog_5_method_4_code 1 = .ok (.aload_n 1, 1) := by decide +kernel
theorem d_Frame_addBytes_2 : decode prog_5_method_4_code 2 = .ok (.arraylength, 1) := by decide +kernel
theorem d_Frame_addBytes_3 : decode prog_5_method_4_code 3 = .ok (.if_icmp .gt 41, 3) := by decide +kernel
theorem d_Frame_addBytes_6 : decode prog_5_method_4_code 6 = .ok (.iload_n 2, 1) := by decide +kernel
theorem d_Frame_addBytes_7 : decode prog_5_method_4_code 7 = .ok (.aload_n 0, 1) := by decide +kernel
theorem d_Frame_addBytes_8 : decode prog_5_method_4_code 8 = .ok (.getfield 9, 3) := by decide +kernel
theorem d_Frame_addBytes_11 : decode prog_5_method_4_code 11 = .ok (.arraylength, 1) := by decide +kernel
theorem d_Frame_addBytes_12 : decode prog_5_method_4_code 12 = .ok (.aload_n 0, 1) := by decide +kernel
theorem d_Frame_addBytes_13 : decode prog_5_method_4_code 13 = .ok (.getfield 15, 3) := by decide +kernel
theorem d_Frame_addBytes_16 : decode prog_5_method_4_code 16 = .ok (.isub, 1) := by decide +kernel
theorem d_Frame_addBytes_17 : decode prog_5_method_4_code 17 = .ok (.if_icmp .gt 27, 3) := by decide +kernel
theorem d_Frame_addBytes_20 : decode prog_5_method_4_code 20 = .ok (.aload_n 1, 1) := by decide +kernel
theorem d_Frame_addBytes_21 : decode prog_5_method_4_code 21 = .ok (.iconst 0, 1) := by decide +kernel
theorem d_Frame_addBytes_22 : decode prog_5_method_4_code 22 = .ok (.aload_n 0, 1) := by decide +kernel
theorem d_Frame_addBytes_23 : decode prog_5_method_4_code 23 = .ok (.getfield 9, 3) := by decide +kernel
theorem d_Frame_addBytes_26 : decode prog_5_method_4_code 26 = .ok (.aload_n 0, 1) := by decide +kernel
theorem d_Frame_addBytes_27 : decode prog_5_method_4_code 27 = .ok (.getfield 15, 3) := by decide +kernel
theorem d_Frame_addBytes_30 : decode prog_5_method_4_code 30 = .ok (.iload_n 2, 1) := by decide +kernel
theorem d_Frame_addBytes_31 : decode prog_5_method_4_code 31 = .ok (.invokestatic 23, 3) := by decide +kernel
theorem d_Frame_addBytes_34 : decode prog_5_method_4_code 34 = .ok (.aload_n 0, 1) := by decide +kernel
theorem d_Frame_addBytes_35 : decode prog_5_method_4_code 35 = .ok (.dup, 1) := by decide +kernel
theorem d_Frame_addBytes_36 : decode prog_5_method_4_code 36 = .ok (.getfield 15, 3) := by decide +kernel
theorem d_Frame_addBytes_39 : decode prog_5_method_4_code 39 = .ok (.iload_n 2, 1) := by decide +kernel
theorem d_Frame_addBytes_40 : decode prog_5_method_4_code 40 = .ok (.iadd, 1) := by decide +kernel
theorem d_Frame_addBytes_41 : decode prog_5_method_4_code 41 = .ok (.putfield 15, 3) := by decide +kernel
theorem d_Frame_addBytes_44 : decode prog_5_method_4_code 44 = .ok (.return_, 1) := by decide +kernel
theorem d_Frame_close_0 : decode prog_5_method_5_code 0 = .ok (.iconst (-1), 1) := by decide +kernel
theorem d_Frame_close_1 : decode prog_5_method_5_code 1 = .ok (.istore_n 1, 1) := by decide +kernel
theorem d_Frame_close_2 : decode prog_5_method_5_code 2 = .ok (.bipush 8, 2) := by decide +kernel
theorem d_Frame_close_4 : decode prog_5_method_5_code 4 = .ok (.istore_n 2, 1) := by decide +kernel
theorem d_Frame_close_5 : decode prog_5_method_5_code 5 = .ok (.iload_n 2, 1) := by decide +kernel
theorem d_Frame_close_6 : decode prog_5_method_5_code 6 = .ok (.aload_n 0, 1) := by decide +kernel
theorem d_Frame_close_7 : decode prog_5_method_5_code 7 = .ok (.getfield 15, 3) := by decide +kernel
theorem d_Frame_close_10 : decode prog_5_method_5_code 10 = .ok (.if_icmp .ge 24, 3) := by decide +kernel
theorem d_Frame_close_13 : decode prog_5_method_5_code 13 = .ok (.iload_n 1, 1) := by decide +kernel
theorem d_Frame_close_14 : decode prog_5_method_5_code 14 = .ok (.aload_n 0, 1) := by decide +kernel
theorem d_Frame_close_15 : decode prog_5_method_5_code 15 = .ok (.getfield 9, 3) := by decide +kernel
theorem d_Frame_close_18 : decode prog_5_method_5_code 18 = .ok (.iload_n 2, 1) := by decide +kernel
theorem d_Frame_close_19 : decode prog_5_method_5_code 19 = .ok (.baload, 1) := by decide +kernel
theorem d_Frame_close_20 : decode prog_5_method_5_code 20 = .ok (.sipush 255, 3) := by decide +kernel
theorem d_Frame_close_23 : decode prog_5_method_5_code 23 = .ok (.iand, 1) := by decide +kernel
theorem d_Frame_close_24 : decode prog_5_method_5_code 24 = .ok (.invokestatic 29, 3) := by decide +kernel
theorem d_Frame_close_27 : decode prog_5_method_5_code 27 = .ok (.istore_n 1, 1) := by decide +kernel
theorem d_Frame_close_28 : decode prog_5_method_5_code 28 = .ok (.iinc 2 1, 3) := by decide +kernel
theorem d_Frame_close_31 : decode prog_5_method_5_code 31 = .ok (.goto (-26), 3) := by decide +kernel
theorem d_Frame_close_34 : decode prog_5_method_5_code 34 = .ok (.aload_n 0, 1) := by decide +kernel
theorem d_Frame_close_35 : decode prog_5_method_5_code 35 = .ok (.iconst 0, 1) := by decide +kernel
theorem d_Frame_close_36 : decode prog_5_method_5_code 36 = .ok (.aload_n 0, 1) := by decide +kernel
theorem d_Frame_close_37 : decode prog_5_method_5_code 37 = .ok (.getfield 15, 3) := by decide +kernel
theorem d_Frame_close_40 : decode prog_5_method_5_code 40 = .ok (.bipush 8, 2) := by decide +kernel
theorem d_Frame_close_42 : decode prog_5_method_5_code 42 = .ok (.isub, 1) := by decide +kernel
theorem d_Frame_close_43 : decode prog_5_method_5_code 43 = .ok (.i2l, 1) := by decide +kernel
theorem d_Frame_close_44 : decode prog_5_method_5_code 44 = .ok (.iconst 4, 1) := by decide +kernel
theorem d_Frame_close_45 : decode prog_5_method_5_code 45 = .ok (.invokevirtual 19, 3) := by decide +kernel
theorem d_Frame_close_48 : decode prog_5_method_5_code 48 = .ok (.aload_n 0, 1) := by decide +kernel
theorem d_Frame_close_49 : decode prog_5_method_5_code 49 = .ok (.iconst 4, 1) := by decide +kernel
theorem d_Frame_close_50 : decode prog_5_method_5_code 50 = .ok (.iload_n 1, 1) := by decide +kernel
theorem d_Frame_close_51 : decode prog_5_method_5_code 51 = .ok (.iconst (-1), 1) := by decide +kernel
theorem d_Frame_close_52 : decode prog_5_method_5_code 52 = .ok (.ixor, 1) := by decide +kernel
theorem d_Frame_close_53 : decode prog_5_method_5_code 53 = .ok (.i2l, 1) := by decide +kernel
theorem d_Frame_close_54 : decode prog_5_method_5_code 54 = .ok (.iconst 4, 1) := by decide +kernel
theorem d_Frame_close_55 : decode prog_5_method_5_code 55 = .ok (.invokevirtual 19, 3) := by decide +kernel
theorem d_Frame_close_58 : decode prog_5_method_5_code 58 = .ok (.return_, 1) := by decide +kernel
theorem d_Frame_put_0 : decode prog_5_method_6_code 0 = .ok (.iconst 0, 1) := by decide +kernel
theorem d_Frame_put_1 : decode prog_5_method_6_code 1 = .ok (.istore 5, 2) := by decide +kernel
theorem d_Frame_put_3 : decode prog_5_method_6_code 3 = .ok (.iload 5, 2) := by decide +kernel
theorem d_Frame_put_5 : decode prog_5_method_6_code 5 = .ok (.iload 4, 2) := by decide +kernel
theorem d_Frame_put_7 : decode prog_5_method_6_code 7 = .ok (.if_icmp .ge 27, 3) := by decide +kernel
theorem d_Frame_put_10 : decode prog_5_method_6_code 10 = .ok (.aload_n 0, 1) := by decide +kernel
theorem d_Frame_put_11 : decode prog_5_method_6_code 11 = .ok (.getfield 9, 3) := by decide +kernel
theorem d_Frame_put_14 : decode prog_5_method_6_code 14 = .ok (.iload_n 1, 1) := by decide +kernel
theorem d_Frame_put_15 : decode prog_5_method_6_code 15 = .ok (.iload 5, 2) := by decide +kernel
theorem d_Frame_put_17 : decode prog_5_method_6_code 17 = .ok (.iadd, 1) := by decide +kernel
theorem d_Frame_put_18 : decode prog_5_method_6_code 18 = .ok (.lload_n 2, 1) := by decide +kernel
theorem d_Frame_put_19 : decode prog_5_method_6_code 19 = .ok (.bipush 8, 2) := by decide +kernel
theorem d_Frame_put_21 : decode prog_5_method_6_code 21 = .ok (.iload 5, 2) := by decide +kernel
theorem d_Frame_put_23 : decode prog_5_method_6_code 23 = .ok (.imul, 1) := by decide +kernel
theorem d_Frame_put_24 : decode prog_5_method_6_code 24 = .ok (.lushr, 1) := by decide +kernel
theorem d_Frame_put_25 : decode prog_5_method_6_code 25 = .ok (.l2i, 1) := by decide +kernel
theorem d_Frame_put_26 : decode prog_5_method_6_code 26 = .ok (.i2b, 1) := by decide +kernel
theorem d_Frame_put_27 : decode prog_5_method_6_code 27 = .ok (.bastore, 1) := by decide +kernel
theorem d_Frame_put_28 : decode prog_5_method_6_code 28 = .ok (.iinc 5 1, 3) := by decide +kernel
theorem d_Frame_put_31 : decode prog_5_method_6_code 31 = .ok (.goto (-28), 3) := by decide +kernel
theorem d_Frame_put_34 : decode prog_5_method_6_code 34 = .ok (.return_, 1) := by decide +kernel
theorem d_Pages_init_0 : decode prog_6_method_1_code 0 = .ok (.aload_n 0, 1) := by decide +kernel
theorem d_Pages_init_1 : decode prog_6_method_1_code 1 = .ok (.invokespecial 3, 3) := by decide +kernel
theorem d_Pages_init_4 : decode prog_6_method_1_code 4 = .ok (.aload_n 0, 1) := by decide +kernel
theorem d_Pages_init_5 : decode prog_6_method_1_code 5 = .ok (.iload_n 1, 1) := by decide +kernel
theorem d_Pages_init_6 : decode prog_6_method_1_code 6 = .ok (.bipush 64, 2) := by decide +kernel
theorem d_Pages_init_8 : decode prog_6_method_1_code 8 = .ok (.imul, 1) := by decide +kernel
theorem d_Pages_init_9 : decode prog_6_method_1_code 9 = .ok (.newarray .byte, 2) := by decide +kernel
theorem d_Pages_init_11 : decode prog_6_method_1_code 11 = .ok (.putfield 9, 3) := by decide +kernel
theorem d_Pages_init_14 : decode prog_6_method_1_code 14 = .ok (.aload_n 0, 1) := by decide +kernel
theorem d_Pages_init_15 : decode prog_6_method_1_code 15 = .ok (.iload_n 1, 1) := by decide +kernel
theorem d_Pages_init_16 : decode prog_6_method_1_code 16 = .ok (.newarray .int, 2) := by decide +kernel
theorem d_Pages_init_18 : decode prog_6_method_1_code 18 = .ok (.putfield 15, 3) := by decide +kernel
theorem d_Pages_init_21 : decode prog_6_method_1_code 21 = .ok (.aload_n 0, 1) := by decide +kernel
theorem d_Pages_init_22 : decode prog_6_method_1_code 22 = .ok (.iload_n 1, 1) := by decide +kernel
theorem d_Pages_init_23 : decode prog_6_method_1_code 23 = .ok (.newarray .int, 2) := by decide +kernel
theorem d_Pages_init_25 : decode prog_6_method_1_code 25 = .ok (.putfield 19, 3) := by decide +kernel
theorem d_Pages_init_28 : decode prog_6_method_1_code 28 = .ok (.aload_n 0, 1) := by decide +kernel
theorem d_Pages_init_29 : decode prog_6_method_1_code 29 = .ok (.iload_n 1, 1) := by decide +kernel
theorem d_Pages_init_30 : decode prog_6_method_1_code 30 = .ok (.putfield 22, 3) := by decide +kernel
theorem d_Pages_init_33 : decode prog_6_method_1_code 33 = .ok (.iconst 0, 1) := by decide +kernel
theorem d_Pages_init_34 : decode prog_6_method_1_code 34 = .ok (.istore_n 2, 1) := by decide +kernel
theorem d_Pages_init_35 : decode prog_6_method_1_code 35 = .ok (.iload_n 2, 1) := by decide +kernel
theorem d_Pages_init_36 : decode prog_6_method_1_code 36 = .ok (.iload_n 1, 1) := by decide +kernel
theorem d_Pages_init_37 : decode prog_6_method_1_code 37 = .ok (.if_icmp .ge 20, 3) := by decide +kernel
theorem d_Pages_init_40 : decode prog_6_method_1_code 40 = .ok (.aload_n 0, 1) := by decide +kernel
theorem d_Pages_init_41 : decode prog_6_method_1_code 41 = .ok (.getfield 19, 3) := by decide +kernel
theorem d_Pages_init_44 : decode prog_6_method_1_code 44 = .ok (.iload_n 2, 1) := by decide +kernel
theorem d_Pages_init_45 : decode prog_6_method_1_code 45 = .ok (.iload_n 1, 1) := by decide +kernel
theorem d_Pages_init_46 : decode prog_6_method_1_code 46 = .ok (.iconst 1, 1) := by decide +kernel
theorem d_Pages_init_47 : decode prog_6_method_1_code 47 = .ok (.isub, 1) := by decide +kernel
theorem d_Pages_init_48 : decode prog_6_method_1_code 48 = .ok (.iload_n 2, 1) := by decide +kernel
theorem d_Pages_init_49 : decode prog_6_method_1_code 49 = .ok (.isub, 1) := by decide +kernel
theorem d_Pages_init_50 : decode prog_6_method_1_code 50 = .ok (.iastore, 1) := by decide +kernel
theorem d_Pages_init_51 : decode prog_6_method_1_code 51 = .ok (.iinc 2 1, 3) := by decide +kernel
theorem d_Pages_init_54 : decode prog_6_method_1_code 54 = .ok (.goto (-19), 3) := by decide +kernel
theorem d_Pages_init_57 : decode prog_6_method_1_code 57 = .ok (.return_, 1) := by decide +kernel
theorem d_Pages_used_0 : decode prog_6_method_2_code 0 = .ok (.aload_n 0, 1) := by decide +kernel
theorem d_Pages_used_1 : decode prog_6_method_2_code 1 = .ok (.getfield 19, 3) := by decide +kernel
theorem d_Pages_used_4 : decode prog_6_method_2_code 4 = .ok (.arraylength, 1) := by decide +kernel
theorem d_Pages_used_5 : decode prog_6_method_2_code 5 = .ok (.aload_n 0, 1) := by decide +kernel
theorem d_Pages_used_6 : decode prog_6_method_2_code 6 = .ok (.getfield 22, 3) := by decide +kernel
theorem d_Pages_used_9 : decode prog_6_method_2_code 9 = .ok (.isub, 1) := by decide +kernel
theorem d_Pages_used_10 : decode prog_6_method_2_code 10 = .ok (.ireturn, 1) := by decide +kernel
theorem d_Pages_seize_0 : decode prog_6_method_3_code 0 = .ok (.aload_n 0, 1) := by decide +kernel
theorem d_Pages_seize_1 : decode prog_6_method_3_code 1 = .ok (.getfield 22, 3) := by decide +kernel
theorem d_Pages_seize_4 : decode prog_6_method_3_code 4 = .ok (.ifCond .le 13, 3) := by decide +kernel
theorem d_Pages_seize_7 : decode prog_6_method_3_code 7 = .ok (.aload_n 0, 1) := by decide +kernel
theorem d_Pages_seize_8 : decode prog_6_method_3_code 8 = .ok (.dup, 1) := by decide +kernel
theorem d_Pages_seize_9 : decode prog_6_method_3_code 9 = .ok (.getfield 22, 3) := by decide +kernel
theorem d_Pages_seize_12 : decode prog_6_method_3_code 12 = .ok (.iconst 1, 1) := by decide +kernel
theorem d_Pages_seize_13 : decode prog_6_method_3_code 13 = .ok (.isub, 1) := by decide +kernel
theorem d_Pages_seize_14 : decode prog_6_method_3_code 14 = .ok (.putfield 22, 3) := by decide +kernel
theorem d_Pages_seize_17 : decode prog_6_method_3_code 17 = .ok (.aload_n 0, 1) := by decide +kernel
theorem d_Pages_seize_18 : decode prog_6_method_3_code 18 = .ok (.getfield 19, 3) := by decide +kernel
theorem d_Pages_seize_21 : decode prog_6_method_3_code 21 = .ok (.aload_n 0, 1) := by decide +kernel
theorem d_Pages_seize_22 : decode prog_6_method_3_code 22 = .ok (.getfield 22, 3) := by decide +kernel
theorem d_Pages_seize_25 : decode prog_6_method_3_code 25 = .ok (.iaload, 1) := by decide +kernel
theorem d_Pages_seize_26 : decode prog_6_method_3_code 26 = .ok (.istore_n 1, 1) := by decide +kernel
theorem d_Pages_seize_27 : decode prog_6_method_3_code 27 = .ok (.aload_n 0, 1) := by decide +kernel
theorem d_Pages_seize_28 : decode prog_6_method_3_code 28 = .ok (.getfield 15, 3) := by decide +kernel
theorem d_Pages_seize_31 : decode prog_6_method_3_code 31 = .ok (.iload_n 1, 1) := by decide +kernel
theorem d_Pages_seize_32 : decode prog_6_method_3_code 32 = .ok (.iconst 1, 1) := by decide +kernel
theorem d_Pages_seize_33 : decode prog_6_method_3_code 33 = .ok (.iastore, 1) := by decide +kernel
theorem d_Pages_seize_34 : decode prog_6_method_3_code 34 = .ok (.iload_n 1, 1) := by decide +kernel
theorem d_Pages_seize_35 : decode prog_6_method_3_code 35 = .ok (.ireturn, 1) := by decide +kernel
theorem d_Pages_share_0 : decode prog_6_method_4_code 0 = .ok (.aload_n 0, 1) := by decide +kernel
theorem d_Pages_share_1 : decode prog_6_method_4_code 1 = .ok (.getfield 15, 3) := by decide +kernel
theorem d_Pages_share_4 : decode prog_6_method_4_code 4 = .ok (.iload_n 1, 1) := by decide +kernel
theorem d_Pages_share_5 : decode prog_6_method_4_code 5 = .ok (.dup2, 1) := by decide +kernel
theorem d_Pages_share_6 : decode prog_6_method_4_code 6 = .ok (.iaload, 1) := by decide +kernel
theorem d_Pages_share_7 : decode prog_6_method_4_code 7 = .ok (.iconst 1, 1) := by decide +kernel
theorem d_Pages_share_8 : decode prog_6_method_4_code 8 = .ok (.iadd, 1) := by decide +kernel
theorem d_Pages_share_9 : decode prog_6_method_4_code 9 = .ok (.iastore, 1) := by decide +kernel
theorem d_Pages_share_10 : decode prog_6_method_4_code 10 = .ok (.return_, 1) := by decide +kernel
theorem d_Pages_giveUp_0 : decode prog_6_method_5_code 0 = .ok (.aload_n 0, 1) := by decide +kernel
theorem d_Pages_giveUp_1 : decode prog_6_method_5_code 1 = .ok (.getfield 15, 3) := by decide +kernel
theorem d_Pages_giveUp_4 : decode prog_6_method_5_code 4 = .ok (.iload_n 1, 1) := by decide +kernel
theorem d_Pages_giveUp_5 : decode prog_6_method_5_code 5 = .ok (.dup2, 1) := by decide +kernel
theorem d_Pages_giveUp_6 : decode prog_6_method_5_code 6 = .ok (.iaload, 1) := by decide +kernel
theorem d_Pages_giveUp_7 : decode prog_6_method_5_code 7 = .ok (.iconst 1, 1) := by decide +kernel
theorem d_Pages_giveUp_8 : decode prog_6_method_5_code 8 = .ok (.isub, 1) := by decide +kernel
theorem d_Pages_giveUp_9 : decode prog_6_method_5_code 9 = .ok (.iastore, 1) := by decide +kernel
theorem d_Pages_giveUp_10 : decode prog_6_method_5_code 10 = .ok (.aload_n 0, 1) := by decide +kernel
theorem d_Pages_giveUp_11 : decode prog_6_method_5_code 11 = .ok (.getfield 15, 3) := by decide +kernel
theorem d_Pages_giveUp_14 : decode prog_6_method_5_code 14 = .ok (.iload_n 1, 1) := by decide +kernel
theorem d_Pages_giveUp_15 : decode prog_6_method_5_code 15 = .ok (.iaload, 1) := by decide +kernel
theorem d_Pages_giveUp_16 : decode prog_6_method_5_code 16 = .ok (.ifCond .ne 35, 3) := by decide +kernel
theorem d_Pages_giveUp_19 : decode prog_6_method_5_code 19 = .ok (.aload_n 0, 1) := by decide +kernel
theorem d_Pages_giveUp_20 : decode prog_6_method_5_code 20 = .ok (.getfield 22, 3) := by decide +kernel
theorem d_Pages_giveUp_23 : decode prog_6_method_5_code 23 = .ok (.aload_n 0, 1) := by decide +kernel
theorem d_Pages_giveUp_24 : decode prog_6_method_5_code 24 = .ok (.getfield 19, 3) := by decide +kernel
theorem d_Pages_giveUp_27 : decode prog_6_method_5_code 27 = .ok (.arraylength, 1) := by decide +kernel
theorem d_Pages_giveUp_28 : decode prog_6_method_5_code 28 = .ok (.if_icmp .ge 23, 3) := by decide +kernel
theorem d_Pages_giveUp_31 : decode prog_6_method_5_code 31 = .ok (.aload_n 0, 1) := by decide +kernel
theorem d_Pages_giveUp_32 : decode prog_6_method_5_code 32 = .ok (.getfield 19, 3) := by decide +kernel
theorem d_Pages_giveUp_35 : decode prog_6_method_5_code 35 = .ok (.aload_n 0, 1) := by decide +kernel
theorem d_Pages_giveUp_36 : decode prog_6_method_5_code 36 = .ok (.getfield 22, 3) := by decide +kernel
theorem d_Pages_giveUp_39 : decode prog_6_method_5_code 39 = .ok (.iload_n 1, 1) := by decide +kernel
theorem d_Pages_giveUp_40 : decode prog_6_method_5_code 40 = .ok (.iastore, 1) := by decide +kernel
theorem d_Pages_giveUp_41 : decode prog_6_method_5_code 41 = .ok (.aload_n 0, 1) := by decide +kernel
theorem d_Pages_giveUp_42 : decode prog_6_method_5_code 42 = .ok (.dup, 1) := by decide +kernel
theorem d_Pages_giveUp_43 : decode prog_6_method_5_code 43 = .ok (.getfield 22, 3) := by decide +kernel
theorem d_Pages_giveUp_46 : decode prog_6_method_5_code 46 = .ok (.iconst 1, 1) := by decide +kernel
theorem d_Pages_giveUp_47 : decode prog_6_method_5_code 47 = .ok (.iadd, 1) := by decide +kernel
theorem d_Pages_giveUp_48 : decode prog_6_method_5_code 48 = .ok (.putfield 22, 3) := by decide +kernel
theorem d_Pages_giveUp_51 : decode prog_6_method_5_code 51 = .ok (.return_, 1) := by decide +kernel
theorem d_Segments_init_0 : decode prog_7_method_1_code 0 = .ok (.aload_n 0, 1) := by decide +kernel
theorem d_Segments_init_1 : decode prog_7_method_1_code 1 = .ok (.invokespecial 3, 3) := by decide +kernel
theorem d_Segments_init_4 : decode prog_7_method_1_code 4 = .ok (.aload_n 0, 1) := by decide +kernel
theorem d_Segments_init_5 : decode prog_7_method_1_code 5 = .ok (.bipush 12, 2) := by decide +kernel
theorem d_Segments_init_7 : decode prog_7_method_1_code 7 = .ok (.newarray .int, 2) := by decide +kernel
theorem d_Segments_init_9 : decode prog_7_method_1_code 9 = .ok (.putfield 9, 3) := by decide +kernel
theorem d_Segments_init_12 : decode prog_7_method_1_code 12 = .ok (.aload_n 0, 1) := by decide +kernel
theorem d_Segments_init_13 : decode prog_7_method_1_code 13 = .ok (.bipush 12, 2) := by decide +kernel
theorem d_Segments_init_15 : decode prog_7_method_1_code 15 = .ok (.newarray .int, 2) := by decide +kernel
theorem d_Segments_init_17 : decode prog_7_method_1_code 17 = .ok (.putfield 15, 3) := by decide +kernel
theorem d_Segments_init_20 : decode prog_7_method_1_code 20 = .ok (.return_, 1) := by decide +kernel
theorem d_Segments_add_0 : decode prog_7_method_2_code 0 = .ok (.aload_n 0, 1) := by decide +kernel
theorem d_Segments_add_1 : decode prog_7_method_2_code 1 = .ok (.getfield 18, 3) := by decide +kernel
theorem d_Segments_add_4 : decode prog_7_method_2_code 4 = .ok (.bipush 12, 2) := by decide +kernel
theorem d_Segments_add_6 : decode prog_7_method_2_code 6 = .ok (.if_icmp .ge 33, 3) := by decide +kernel
theorem d_Segments_add_9 : decode prog_7_method_2_code 9 = .ok (.aload_n 0, 1) := by decide +kernel
theorem d_Segments_add_10 : decode prog_7_method_2_code 10 = .ok (.getfield 9, 3) := by decide +kernel
theorem d_Segments_add_13 : decode prog_7_method_2_code 13 = .ok (.aload_n 0, 1) := by decide +kernel
theorem d_Segments_add_14 : decode prog_7_method_2_code 14 = .ok (.getfield 18, 3) := by decide +kernel
theorem d_Segments_add_17 : decode prog_7_method_2_code 17 = .ok (.iload_n 1, 1) := by decide +kernel
theorem d_Segments_add_18 : decode prog_7_method_2_code 18 = .ok (.iastore, 1) := by decide +kernel
theorem d_Segments_add_19 : decode prog_7_method_2_code 19 = .ok (.aload_n 0, 1) := by decide +kernel
theorem d_Segments_add_20 : decode prog_7_method_2_code 20 = .ok (.getfield 15, 3) := by decide +kernel
theorem d_Segments_add_23 : decode prog_7_method_2_code 23 = .ok (.aload_n 0, 1) := by decide +kernel
theorem d_Segments_add_24 : decode prog_7_method_2_code 24 = .ok (.getfield 18, 3) := by decide +kernel
theorem d_Segments_add_27 : decode prog_7_method_2_code 27 = .ok (.iload_n 2, 1) := by decide +kernel
theorem d_Segments_add_28 : decode prog_7_method_2_code 28 = .ok (.iastore, 1) := by decide +kernel
theorem d_Segments_add_29 : decode prog_7_method_2_code 29 = .ok (.aload_n 0, 1) := by decide +kernel
theorem d_Segments_add_30 : decode prog_7_method_2_code 30 = .ok (.dup, 1) := by decide +kernel
theorem d_Segments_add_31 : decode prog_7_method_2_code 31 = .ok (.getfield 18, 3) := by decide +kernel
theorem d_Segments_add_34 : decode prog_7_method_2_code 34 = .ok (.iconst 1, 1) := by decide +kernel
theorem d_Segments_add_35 : decode prog_7_method_2_code 35 = .ok (.iadd, 1) := by decide +kernel
theorem d_Segments_add_36 : decode prog_7_method_2_code 36 = .ok (.putfield 18, 3) := by decide +kernel
theorem d_Segments_add_39 : decode prog_7_method_2_code 39 = .ok (.return_, 1) := by decide +kernel
theorem d_Segments_lastFile_0 : decode prog_7_method_3_code 0 = .ok (.aload_n 0, 1) := by decide +kernel
theorem d_Segments_lastFile_1 : decode prog_7_method_3_code 1 = .ok (.getfield 18, 3) := by decide +kernel
theorem d_Segments_lastFile_4 : decode prog_7_method_3_code 4 = .ok (.ifCond .ne 7, 3) := by decide +kernel
theorem d_Segments_lastFile_7 : decode prog_7_method_3_code 7 = .ok (.iconst (-1), 1) := by decide +kernel
theorem d_Segments_lastFile_8 : decode prog_7_method_3_code 8 = .ok (.goto 14, 3) := by decide +kernel
theorem d_Segments_lastFile_11 : decode prog_7_method_3_code 11 = .ok (.aload_n 0, 1) := by decide +kernel
theorem d_Segments_lastFile_12 : decode prog_7_method_3_code 12 = .ok (.getfield 9, 3) := by decide +kernel
theorem d_Segments_lastFile_15 : decode prog_7_method_3_code 15 = .ok (.aload_n 0, 1) := by decide +kernel
theorem d_Segments_lastFile_16 : decode prog_7_method_3_code 16 = .ok (.getfield 18, 3) := by decide +kernel
theorem d_Segments_lastFile_19 : decode prog_7_method_3_code 19 = .ok (.iconst 1, 1) := by decide +kernel
theorem d_Segments_lastFile_20 : decode prog_7_method_3_code 20 = .ok (.isub, 1) := by decide +kernel
theorem d_Segments_lastFile_21 : decode prog_7_method_3_code 21 = .ok (.iaload, 1) := by decide +kernel
theorem d_Segments_lastFile_22 : decode prog_7_method_3_code 22 = .ok (.ireturn, 1) := by decide +kernel
theorem d_Segments_has_0 : decode prog_7_method_4_code 0 = .ok (.iconst 0, 1) := by decide +kernel
theorem d_Segments_has_1 : decode prog_7_method_4_code 1 = .ok (.istore_n 2, 1) := by decide +kernel
theorem d_Segments_has_2 : decode prog_7_method_4_code 2 = .ok (.iload_n 2, 1) := by decide +kernel
theorem d_Segments_has_3 : decode prog_7_method_4_code 3 = .ok (.aload_n 0, 1) := by decide +kernel
theorem d_Segments_has_4 : decode prog_7_method_4_code 4 = .ok (.getfield 18, 3) := by decide +kernel
theorem d_Segments_has_7 : decode prog_7_method_4_code 7 = .ok (.if_icmp .ge 21, 3) := by decide +kernel
theorem d_Segments_has_10 : decode prog_7_method_4_code 10 = .ok (.aload_n 0, 1) := by decide +kernel
theorem d_Segments_has_11 : decode prog_7_method_4_code 11 = .ok (.getfield 9, 3) := by decide +kernel
theorem d_Segments_has_14 : decode prog_7_method_4_code 14 = .ok (.iload_n 2, 1) := by decide +kernel
theorem d_Segments_has_15 : decode prog_7_method_4_code 15 = .ok (.iaload, 1) := by decide +kernel
theorem d_Segments_has_16 : decode prog_7_method_4_code 16 = .ok (.iload_n 1, 1) := by decide +kernel
theorem d_Segments_has_17 : decode prog_7_method_4_code 17 = .ok (.if_icmp .ne 5, 3) := by decide +kernel
theorem d_Segments_has_20 : decode prog_7_method_4_code 20 = .ok (.iconst 1, 1) := by decide +kernel
theorem d_Segments_has_21 : decode prog_7_method_4_code 21 = .ok (.ireturn, 1) := by decide +kernel
theorem d_Segments_has_22 : decode prog_7_method_4_code 22 = .ok (.iinc 2 1, 3) := by decide +kernel
theorem d_Segments_has_25 : decode prog_7_method_4_code 25 = .ok (.goto (-23), 3) := by decide +kernel
theorem d_Segments_has_28 : decode prog_7_method_4_code 28 = .ok (.iconst 0, 1) := by decide +kernel
theorem d_Segments_has_29 : decode prog_7_method_4_code 29 = .ok (.ireturn, 1) := by decide +kernel
theorem d_Segments_endedBy_0 : decode prog_7_method_5_code 0 = .ok (.iconst 0, 1) := by decide +kernel
theorem d_Segments_endedBy_1 : decode prog_7_method_5_code 1 = .ok (.istore_n 2, 1) := by decide +kernel
theorem d_Segments_endedBy_2 : decode prog_7_method_5_code 2 = .ok (.iconst 1, 1) := by decide +kernel
theorem d_Segments_endedBy_3 : decode prog_7_method_5_code 3 = .ok (.istore_n 3, 1) := by decide +kernel
theorem d_Segments_endedBy_4 : decode prog_7_method_5_code 4 = .ok (.iload_n 3, 1) := by decide +kernel
theorem d_Segments_endedBy_5 : decode prog_7_method_5_code 5 = .ok (.aload_n 0, 1) := by decide +kernel
theorem d_Segments_endedBy_6 : decode prog_7_method_5_code 6 = .ok (.getfield 18, 3) := by decide +kernel
theorem d_Segments_endedBy_9 : decode prog_7_method_5_code 9 = .ok (.if_icmp .ge 24, 3) := by decide +kernel
theorem d_Segments_endedBy_12 : decode prog_7_method_5_code 12 = .ok (.aload_n 0, 1) := by decide +kernel
theorem d_Segments_endedBy_13 : decode prog_7_method_5_code 13 = .ok (.getfield 15, 3) := by decide +kernel
theorem d_Segments_endedBy_16 : decode prog_7_method_5_code 16 = .ok (.iload_n 3, 1) := by decide +kernel
theorem d_Segments_endedBy_17 : decode prog_7_method_5_code 17 = .ok (.iaload, 1) := by decide +kernel
theorem d_Segments_endedBy_18 : decode prog_7_method_5_code 18 = .ok (.iload_n 1, 1) := by decide +kernel
theorem d_Segments_endedBy_19 : decode prog_7_method_5_code 19 = .ok (.iconst 1, 1) := by decide +kernel
theorem d_Segments_endedBy_20 : decode prog_7_method_5_code 20 = .ok (.iadd, 1) := by decide +kernel
theorem d_Segments_endedBy_21 : decode prog_7_method_5_code 21 = .ok (.if_icmp .gt 12, 3) := by decide +kernel
theorem d_Segments_endedBy_24 : decode prog_7_method_5_code 24 = .ok (.iinc 2 1, 3) := by decide +kernel
theorem d_Segments_endedBy_27 : decode prog_7_method_5_code 27 = .ok (.iinc 3 1, 3) := by decide +kernel
theorem d_Segments_endedBy_30 : decode prog_7_method_5_code 30 = .ok (.goto (-26), 3) := by decide +kernel
theorem d_Segments_endedBy_33 : decode prog_7_method_5_code 33 = .ok (.iload_n 2, 1) := by decide +kernel
theorem d_Segments_endedBy_34 : decode prog_7_method_5_code 34 = .ok (.ireturn, 1) := by decide +kernel
theorem d_Segments_dropFront_0 : decode prog_7_method_6_code 0 = .ok (.iload_n 1, 1) := by decide +kernel
theorem d_Segments_dropFront_1 : decode prog_7_method_6_code 1 = .ok (.istore_n 2, 1) := by decide +kernel
theorem d_Segments_dropFront_2 : decode prog_7_method_6_code 2 = .ok (.iload_n 2, 1) := by decide +kernel
theorem d_Segments_dropFront_3 : decode prog_7_method_6_code 3 = .ok (.aload_n 0, 1) := by decide +kernel
theorem d_Segments_dropFront_4 : decode prog_7_method_6_code 4 = .ok (.getfield 18, 3) := by decide +kernel
theorem d_Segments_dropFront_7 : decode prog_7_method_6_code 7 = .ok (.if_icmp .ge 37, 3) := by decide +kernel
theorem d_Segments_dropFront_10 : decode prog_7_method_6_code 10 = .ok (.aload_n 0, 1) := by decide +kernel
theorem d_Segments_dropFront_11 : decode prog_7_method_6_code 11 = .ok (.getfield 9, 3) := by decide +kernel
theorem d_Segments_dropFront_14 : decode prog_7_method_6_code 14 = .ok (.iload_n 2, 1) := by decide +kernel
theorem d_Segments_dropFront_15 : decode prog_7_method_6_code 15 = .ok (.iload_n 1, 1) := by decide +kernel
theorem d_Segments_dropFront_16 : decode prog_7_method_6_code 16 = .ok (.isub, 1) := by decide +kernel
theorem d_Segments_dropFront_17 : decode prog_7_method_6_code 17 = .ok (.aload_n 0, 1) := by decide +kernel
theorem d_Segments_dropFront_18 : decode prog_7_method_6_code 18 = .ok (.getfield 9, 3) := by decide +kernel
theorem d_Segments_dropFront_21 : decode prog_7_method_6_code 21 = .ok (.iload_n 2, 1) := by decide +kernel
theorem d_Segments_dropFront_22 : decode prog_7_method_6_code 22 = .ok (.iaload, 1) := by decide +kernel
theorem d_Segments_dropFront_23 : decode prog_7_method_6_code 23 = .ok (.iastore, 1) := by decide +kernel
theorem d_Segments_dropFront_24 : decode prog_7_method_6_code 24 = .ok (.aload_n 0, 1) := by decide +kernel
theorem d_Segments_dropFront_25 : decode prog_7_method_6_code 25 = .ok (.getfield 15, 3) := by decide +kernel
theorem d_Segments_dropFront_28 : decode prog_7_method_6_code 28 = .ok (.iload_n 2, 1) := by decide +kernel
theorem d_Segments_dropFront_29 : decode prog_7_method_6_code 29 = .ok (.iload_n 1, 1) := by decide +kernel
theorem d_Segments_dropFront_30 : decode prog_7_method_6_code 30 = .ok (.isub, 1) := by decide +kernel
theorem d_Segments_dropFront_31 : decode prog_7_method_6_code 31 = .ok (.aload_n 0, 1) := by decide +kernel
theorem d_Segments_dropFront_32 : decode prog_7_method_6_code 32 = .ok (.getfield 15, 3) := by decide +kernel
theorem d_Segments_dropFront_35 : decode prog_7_method_6_code 35 = .ok (.iload_n 2, 1) := by decide +kernel
theorem d_Segments_dropFront_36 : decode prog_7_method_6_code 36 = .ok (.iaload, 1) := by decide +kernel
theorem d_Segments_dropFront_37 : decode prog_7_method_6_code 37 = .ok (.iastore, 1) := by decide +kernel
theorem d_Segments_dropFront_38 : decode prog_7_method_6_code 38 = .ok (.iinc 2 1, 3) := by decide +kernel
theorem d_Segments_dropFront_41 : decode prog_7_method_6_code 41 = .ok (.goto (-39), 3) := by decide +kernel
theorem d_Segments_dropFront_44 : decode prog_7_method_6_code 44 = .ok (.aload_n 0, 1) := by decide +kernel
theorem d_Segments_dropFront_45 : decode prog_7_method_6_code 45 = .ok (.dup, 1) := by decide +kernel
theorem d_Segments_dropFront_46 : decode prog_7_method_6_code 46 = .ok (.getfield 18, 3) := by decide +kernel
theorem d_Segments_dropFront_49 : decode prog_7_method_6_code 49 = .ok (.iload_n 1, 1) := by decide +kernel
theorem d_Segments_dropFront_50 : decode prog_7_method_6_code 50 = .ok (.isub, 1) := by decide +kernel
theorem d_Segments_dropFront_51 : decode prog_7_method_6_code 51 = .ok (.putfield 18, 3) := by decide +kernel
theorem d_Segments_dropFront_54 : decode prog_7_method_6_code 54 = .ok (.return_, 1) := by decide +kernel
theorem d_Snapshot_init_0 : decode prog_8_method_1_code 0 = .ok (.aload_n 0, 1) := by decide +kernel
theorem d_Snapshot_init_1 : decode prog_8_method_1_code 1 = .ok (.invokespecial 3, 3) := by decide +kernel
theorem d_Snapshot_init_4 : decode prog_8_method_1_code 4 = .ok (.aload_n 0, 1) := by decide +kernel
theorem d_Snapshot_init_5 : decode prog_8_method_1_code 5 = .ok (.iconst (-1), 1) := by decide +kernel
theorem d_Snapshot_init_6 : decode prog_8_method_1_code 6 = .ok (.putfield 9, 3) := by decide +kernel
theorem d_Snapshot_init_9 : decode prog_8_method_1_code 9 = .ok (.return_, 1) := by decide +kernel
theorem d_Snapshot_set_0 : decode prog_8_method_2_code 0 = .ok (.aload_n 0, 1) := by decide +kernel
theorem d_Snapshot_set_1 : decode prog_8_method_2_code 1 = .ok (.iload_n 1, 1) := by decide +kernel
theorem d_Snapshot_set_2 : decode prog_8_method_2_code 2 = .ok (.putfield 9, 3) := by decide +kernel
theorem d_Snapshot_set_5 : decode prog_8_method_2_code 5 = .ok (.aload_n 0, 1) := by decide +kernel
theorem d_Snapshot_set_6 : decode prog_8_method_2_code 6 = .ok (.iload_n 2, 1) := by decide +kernel
theorem d_Snapshot_set_7 : decode prog_8_method_2_code 7 = .ok (.putfield 15, 3) := by decide +kernel
theorem d_Snapshot_set_10 : decode prog_8_method_2_code 10 = .ok (.aload_n 0, 1) := by decide +kernel
theorem d_Snapshot_set_11 : decode prog_8_method_2_code 11 = .ok (.iload_n 3, 1) := by decide +kernel
theorem d_Snapshot_set_12 : decode prog_8_method_2_code 12 = .ok (.putfield 18, 3) := by decide +kernel
theorem d_Snapshot_set_15 : decode prog_8_method_2_code 15 = .ok (.aload_n 0, 1) := by decide +kernel
theorem d_Snapshot_set_16 : decode prog_8_method_2_code 16 = .ok (.iload 4, 2) := by decide +kernel
theorem d_Snapshot_set_18 : decode prog_8_method_2_code 18 = .ok (.putfield 21, 3) := by decide +kernel
theorem d_Snapshot_set_21 : decode prog_8_method_2_code 21 = .ok (.return_, 1) := by decide +kernel
theorem d_Snapshot_nextFile_0 : decode prog_8_method_3_code 0 = .ok (.aload_n 0, 1) := by decide +kernel
theorem d_Snapshot_nextFile_1 : decode prog_8_method_3_code 1 = .ok (.getfield 9, 3) := by decide +kernel
theorem d_Snapshot_nextFile_4 : decode prog_8_method_3_code 4 = .ok (.iconst 2, 1) := by decide +kernel
theorem d_Snapshot_nextFile_5 : decode prog_8_method_3_code 5 = .ok (.if_icmp .ne 7, 3) := by decide +kernel
theorem d_Snapshot_nextFile_8 : decode prog_8_method_3_code 8 = .ok (.iconst 3, 1) := by decide +kernel
theorem d_Snapshot_nextFile_9 : decode prog_8_method_3_code 9 = .ok (.goto 4, 3) := by decide +kernel
theorem d_Snapshot_nextFile_12 : decode prog_8_method_3_code 12 = .ok (.iconst 2, 1) := by decide +kernel
theorem d_Snapshot_nextFile_13 : decode prog_8_method_3_code 13 = .ok (.ireturn, 1) := by decide +kernel
theorem d_Tape_init_0 : decode prog_9_method_1_code 0 = .ok (.aload_n 0, 1) := by decide +kernel
theorem d_Tape_init_1 : decode prog_9_method_1_code 1 = .ok (.invokespecial 3, 3) := by decide +kernel
theorem d_Tape_init_4 : decode prog_9_method_1_code 4 = .ok (.aload_n 0, 1) := by decide +kernel
theorem d_Tape_init_5 : decode prog_9_method_1_code 5 = .ok (.sipush 4096, 3) := by decide +kernel
theorem d_Tape_init_8 : decode prog_9_method_1_code 8 = .ok (.newarray .byte, 2) := by decide +kernel
theorem d_Tape_init_10 : decode prog_9_method_1_code 10 = .ok (.putfield 9, 3) := by decide +kernel
theorem d_Tape_init_13 : decode prog_9_method_1_code 13 = .ok (.return_, 1) := by decide +kernel
theorem d_Tape_handOver_0 : decode prog_9_method_2_code 0 = .ok (.aload_n 0, 1) := by decide +kernel
theorem d_Tape_handOver_1 : decode prog_9_method_2_code 1 = .ok (.getfield 15, 3) := by decide +kernel
theorem d_Tape_handOver_4 : decode prog_9_method_2_code 4 = .ok (.istore_n 1, 1) := by decide +kernel
theorem d_Tape_handOver_5 : decode prog_9_method_2_code 5 = .ok (.aload_n 0, 1) := by decide +kernel
theorem d_Tape_handOver_6 : decode prog_9_method_2_code 6 = .ok (.iconst 0, 1) := by decide +kernel
theorem d_Tape_handOver_7 : decode prog_9_method_2_code 7 = .ok (.putfield 15, 3) := by decide +kernel
theorem d_Tape_handOver_10 : decode prog_9_method_2_code 10 = .ok (.iload_n 1, 1) := by decide +kernel
theorem d_Tape_handOver_11 : decode prog_9_method_2_code 11 = .ok (.ireturn, 1) := by decide +kernel
theorem d_Vote_init_0 : decode prog_10_method_1_code 0 = .ok (.aload_n 0, 1) := by decide +kernel
theorem d_Vote_init_1 : decode prog_10_method_1_code 1 = .ok (.invokespecial 3, 3) := by decide +kernel
theorem d_Vote_init_4 : decode prog_10_method_1_code 4 = .ok (.aload_n 0, 1) := by decide +kernel
theorem d_Vote_init_5 : decode prog_10_method_1_code 5 = .ok (.iconst (-1), 1) := by decide +kernel
theorem d_Vote_init_6 : decode prog_10_method_1_code 6 = .ok (.putfield 9, 3) := by decide +kernel
theorem d_Vote_init_9 : decode prog_10_method_1_code 9 = .ok (.aload_n 0, 1) := by decide +kernel
theorem d_Vote_init_10 : decode prog_10_method_1_code 10 = .ok (.iconst (-1), 1) := by decide +kernel
theorem d_Vote_init_11 : decode prog_10_method_1_code 11 = .ok (.putfield 15, 3) := by decide +kernel
theorem d_Vote_init_14 : decode prog_10_method_1_code 14 = .ok (.return_, 1) := by decide +kernel
theorem d_Vote_set_0 : decode prog_10_method_2_code 0 = .ok (.aload_n 0, 1) := by decide +kernel
theorem d_Vote_set_1 : decode prog_10_method_2_code 1 = .ok (.iload_n 1, 1) := by decide +kernel
theorem d_Vote_set_2 : decode prog_10_method_2_code 2 = .ok (.putfield 15, 3) := by decide +kernel
theorem d_Vote_set_5 : decode prog_10_method_2_code 5 = .ok (.aload_n 0, 1) := by decide +kernel
theorem d_Vote_set_6 : decode prog_10_method_2_code 6 = .ok (.lload_n 2, 1) := by decide +kernel
theorem d_Vote_set_7 : decode prog_10_method_2_code 7 = .ok (.putfield 18, 3) := by decide +kernel
theorem d_Vote_set_10 : decode prog_10_method_2_code 10 = .ok (.aload_n 0, 1) := by decide +kernel
theorem d_Vote_set_11 : decode prog_10_method_2_code 11 = .ok (.iload 4, 2) := by decide +kernel
theorem d_Vote_set_13 : decode prog_10_method_2_code 13 = .ok (.putfield 22, 3) := by decide +kernel
theorem d_Vote_set_16 : decode prog_10_method_2_code 16 = .ok (.aload_n 0, 1) := by decide +kernel
theorem d_Vote_set_17 : decode prog_10_method_2_code 17 = .ok (.iload 5, 2) := by decide +kernel
theorem d_Vote_set_19 : decode prog_10_method_2_code 19 = .ok (.putfield 9, 3) := by decide +kernel
theorem d_Vote_set_22 : decode prog_10_method_2_code 22 = .ok (.return_, 1) := by decide +kernel
theorem d_Vote_forget_0 : decode prog_10_method_3_code 0 = .ok (.aload_n 0, 1) := by decide +kernel
theorem d_Vote_forget_1 : decode prog_10_method_3_code 1 = .ok (.iconst (-1), 1) := by decide +kernel
theorem d_Vote_forget_2 : decode prog_10_method_3_code 2 = .ok (.lconst 0, 1) := by decide +kernel
theorem d_Vote_forget_3 : decode prog_10_method_3_code 3 = .ok (.iconst 0, 1) := by decide +kernel
theorem d_Vote_forget_4 : decode prog_10_method_3_code 4 = .ok (.iconst (-1), 1) := by decide +kernel
theorem d_Vote_forget_5 : decode prog_10_method_3_code 5 = .ok (.invokevirtual 25, 3) := by decide +kernel
theorem d_Vote_forget_8 : decode prog_10_method_3_code 8 = .ok (.aload_n 0, 1) := by decide +kernel
theorem d_Vote_forget_9 : decode prog_10_method_3_code 9 = .ok (.iconst 0, 1) := by decide +kernel
theorem d_Vote_forget_10 : decode prog_10_method_3_code 10 = .ok (.putfield 29, 3) := by decide +kernel
theorem d_Vote_forget_13 : decode prog_10_method_3_code 13 = .ok (.return_, 1) := by decide +kernel
theorem d_Vote_nextFile_0 : decode prog_10_method_4_code 0 = .ok (.aload_n 0, 1) := by decide +kernel
theorem d_Vote_nextFile_1 : decode prog_10_method_4_code 1 = .ok (.getfield 15, 3) := by decide +kernel
theorem d_Vote_nextFile_4 : decode prog_10_method_4_code 4 = .ok (.iconst (-1), 1) := by decide +kernel
theorem d_Vote_nextFile_5 : decode prog_10_method_4_code 5 = .ok (.if_icmp .ne 5, 3) := by decide +kernel
theorem d_Vote_nextFile_8 : decode prog_10_method_4_code 8 = .ok (.iconst 1, 1) := by decide +kernel
theorem d_Vote_nextFile_9 : decode prog_10_method_4_code 9 = .ok (.ireturn, 1) := by decide +kernel
theorem d_Vote_nextFile_10 : decode prog_10_method_4_code 10 = .ok (.aload_n 0, 1) := by decide +kernel
theorem d_Vote_nextFile_11 : decode prog_10_method_4_code 11 = .ok (.getfield 29, 3) := by decide +kernel
theorem d_Vote_nextFile_14 : decode prog_10_method_4_code 14 = .ok (.ifCond .eq 10, 3) := by decide +kernel
theorem d_Vote_nextFile_17 : decode prog_10_method_4_code 17 = .ok (.aload_n 0, 1) := by decide +kernel
theorem d_Vote_nextFile_18 : decode prog_10_method_4_code 18 = .ok (.getfield 15, 3) := by decide +kernel
theorem d_Vote_nextFile_21 : decode prog_10_method_4_code 21 = .ok (.goto 9, 3) := by decide +kernel
theorem d_Vote_nextFile_24 : decode prog_10_method_4_code 24 = .ok (.iconst 1, 1) := by decide +kernel
theorem d_Vote_nextFile_25 : decode prog_10_method_4_code 25 = .ok (.aload_n 0, 1) := by decide +kernel
theorem d_Vote_nextFile_26 : decode prog_10_method_4_code 26 = .ok (.getfield 15, 3) := by decide +kernel
theorem d_Vote_nextFile_29 : decode prog_10_method_4_code 29 = .ok (.isub, 1) := by decide +kernel
theorem d_Vote_nextFile_30 : decode prog_10_method_4_code 30 = .ok (.ireturn, 1) := by decide +kernel
end
section
theorem d_LogDisk_init_0 : decode prog_1_method_1_code 0 = .ok (.aload_n 0, 1) := by decide +kernel
theorem d_LogDisk_init_1 : decode prog_1_method_1_code 1 = .ok (.invokespecial 3, 3) := by decide +kernel
theorem d_LogDisk_init_4 : decode prog_1_method_1_code 4 = .ok (.aload_n 0, 1) := by decide +kernel
theorem d_LogDisk_init_5 : decode prog_1_method_1_code 5 = .ok (.bipush 16, 2) := by decide +kernel
theorem d_LogDisk_init_7 : decode prog_1_method_1_code 7 = .ok (.anewarray 9, 3) := by decide +kernel
theorem d_LogDisk_init_10 : decode prog_1_method_1_code 10 = .ok (.putfield 11, 3) := by decide +kernel
theorem d_LogDisk_init_13 : decode prog_1_method_1_code 13 = .ok (.aload_n 0, 1) := by decide +kernel
theorem d_LogDisk_init_14 : decode prog_1_method_1_code 14 = .ok (.bipush 16, 2) := by decide +kernel
theorem d_LogDisk_init_16 : decode prog_1_method_1_code 16 = .ok (.newarray .int, 2) := by decide +kernel
theorem d_LogDisk_init_18 : decode prog_1_method_1_code 18 = .ok (.putfield 15, 3) := by decide +kernel
theorem d_LogDisk_init_21 : decode prog_1_method_1_code 21 = .ok (.aload_n 0, 1) := by decide +kernel
theorem d_LogDisk_init_22 : decode prog_1_method_1_code 22 = .ok (.new 19, 3) := by decide +kernel
theorem d_LogDisk_init_25 : decode prog_1_method_1_code 25 = .ok (.dup, 1) := by decide +kernel
theorem d_LogDisk_init_26 : decode prog_1_method_1_code 26 = .ok (.invokespecial 21, 3) := by decide +kernel
theorem d_LogDisk_init_29 : decode prog_1_method_1_code 29 = .ok (.putfield 22, 3) := by decide +kernel
theorem d_LogDisk_init_32 : decode prog_1_method_1_code 32 = .ok (.aload_n 0, 1) := by decide +kernel
theorem d_LogDisk_init_33 : decode prog_1_method_1_code 33 = .ok (.new 26, 3) := by decide +kernel
theorem d_LogDisk_init_36 : decode prog_1_method_1_code 36 = .ok (.dup, 1) := by decide +kernel
theorem d_LogDisk_init_37 : decode prog_1_method_1_code 37 = .ok (.invokespecial 28, 3) := by decide +kernel
theorem d_LogDisk_init_40 : decode prog_1_method_1_code 40 = .ok (.putfield 29, 3) := by decide +kernel
theorem d_LogDisk_init_43 : decode prog_1_method_1_code 43 = .ok (.aload_n 0, 1) := by decide +kernel
theorem d_LogDisk_init_44 : decode prog_1_method_1_code 44 = .ok (.new 33, 3) := by decide +kernel
theorem d_LogDisk_init_47 : decode prog_1_method_1_code 47 = .ok (.dup, 1) := by decide +kernel
theorem d_LogDisk_init_48 : decode prog_1_method_1_code 48 = .ok (.invokespecial 35, 3) := by decide +kernel
theorem d_LogDisk_init_51 : decode prog_1_method_1_code 51 = .ok (.putfield 36, 3) := by decide +kernel
theorem d_LogDisk_init_54 : decode prog_1_method_1_code 54 = .ok (.aload_n 0, 1) := by decide +kernel
theorem d_LogDisk_init_55 : decode prog_1_method_1_code 55 = .ok (.new 40, 3) := by decide +kernel
theorem d_LogDisk_init_58 : decode prog_1_method_1_code 58 = .ok (.dup, 1) := by decide +kernel
theorem d_LogDisk_init_59 : decode prog_1_method_1_code 59 = .ok (.invokespecial 42, 3) := by decide +kernel
theorem d_LogDisk_init_62 : decode prog_1_method_1_code 62 = .ok (.putfield 43, 3) := by decide +kernel
theorem d_LogDisk_init_65 : decode prog_1_method_1_code 65 = .ok (.aload_n 0, 1) := by decide +kernel
theorem d_LogDisk_init_66 : decode prog_1_method_1_code 66 = .ok (.new 47, 3) := by decide +kernel
theorem d_LogDisk_init_69 : decode prog_1_method_1_code 69 = .ok (.dup, 1) := by decide +kernel
theorem d_LogDisk_init_70 : decode prog_1_method_1_code 70 = .ok (.invokespecial 49, 3) := by decide +kernel
theorem d_LogDisk_init_73 : decode prog_1_method_1_code 73 = .ok (.putfield 50, 3) := by decide +kernel
theorem d_LogDisk_init_76 : decode prog_1_method_1_code 76 = .ok (.aload_n 0, 1) := by decide +kernel
theorem d_LogDisk_init_77 : decode prog_1_method_1_code 77 = .ok (.new 54, 3) := by decide +kernel
theorem d_LogDisk_init_80 : decode prog_1_method_1_code 80 = .ok (.dup, 1) := by decide +kernel
theorem d_LogDisk_init_81 : decode prog_1_method_1_code 81 = .ok (.invokespecial 56, 3) := by decide +kernel
theorem d_LogDisk_init_84 : decode prog_1_method_1_code 84 = .ok (.putfield 57, 3) := by decide +kernel
theorem d_LogDisk_init_87 : decode prog_1_method_1_code 87 = .ok (.bipush 8, 2) := by decide +kernel
theorem d_LogDisk_init_89 : decode prog_1_method_1_code 89 = .ok (.sipush 1024, 3) := by decide +kernel
theorem d_LogDisk_init_92 : decode prog_1_method_1_code 92 = .ok (.iload_n 1, 1) := by decide +kernel
theorem d_LogDisk_init_93 : decode prog_1_method_1_code 93 = .ok (.invokestatic 61, 3) := by decide +kernel
theorem d_LogDisk_init_96 : decode prog_1_method_1_code 96 = .ok (.invokestatic 67, 3) := by decide +kernel
theorem d_LogDisk_init_99 : decode prog_1_method_1_code 99 = .ok (.istore_n 3, 1) := by decide +kernel
theorem d_LogDisk_init_100 : decode prog_1_method_1_code 100 = .ok (.new 70, 3) := by decide +kernel
theorem d_LogDisk_init_103 : decode prog_1_method_1_code 103 = .ok (.dup, 1) := by decide +kernel
theorem d_LogDisk_init_104 : decode prog_1_method_1_code 104 = .ok (.iload_n 3, 1) := by decide +kernel
theorem d_LogDisk_init_105 : decode prog_1_method_1_code 105 = .ok (.invokespecial 72, 3) := by decide +kernel
theorem d_LogDisk_init_108 : decode prog_1_method_1_code 108 = .ok (.astore 4, 2) := by decide +kernel
theorem d_LogDisk_init_110 : decode prog_1_method_1_code 110 = .ok (.iconst 0, 1) := by decide +kernel
theorem d_LogDisk_init_111 : decode prog_1_method_1_code 111 = .ok (.istore 5, 2) := by decide +kernel
theorem d_LogDisk_init_113 : decode prog_1_method_1_code 113 = .ok (.iload 5, 2) := by decide +kernel
theorem d_LogDisk_init_115 : decode prog_1_method_1_code 115 = .ok (.bipush 16, 2) := by decide +kernel
theorem d_LogDisk_init_117 : decode prog_1_method_1_code 117 = .ok (.if_icmp .ge 40, 3) := by decide +kernel
theorem d_LogDisk_init_120 : decode prog_1_method_1_code 120 = .ok (.aload_n 0, 1) := by decide +kernel
theorem d_LogDisk_init_121 : decode prog_1_method_1_code 121 = .ok (.getfield 11, 3) := by decide +kernel
theorem d_LogDisk_init_124 : decode prog_1_method_1_code 124 = .ok (.iload 5, 2) := by decide +kernel
theorem d_LogDisk_init_126 : decode prog_1_method_1_code 126 = .ok (.new 9, 3) := by decide +kernel
theorem d_LogDisk_init_129 : decode prog_1_method_1_code 129 = .ok (.dup, 1) := by decide +kernel
theorem d_LogDisk_init_130 : decode prog_1_method_1_code 130 = .ok (.aload 4, 2) := by decide +kernel
theorem d_LogDisk_init_132 : decode prog_1_method_1_code 132 = .ok (.iload_n 3, 1) := by decide +kernel
theorem d_LogDisk_init_133 : decode prog_1_method_1_code 133 = .ok (.sipush 400, 3) := by decide +kernel
theorem d_LogDisk_init_136 : decode prog_1_method_1_code 136 = .ok (.invokestatic 61, 3) := by decide +kernel
theorem d_LogDisk_init_139 : decode prog_1_method_1_code 139 = .ok (.invokespecial 75, 3) := by decide +kernel
theorem d_LogDisk_init_142 : decode prog_1_method_1_code 142 = .ok (.aastore, 1) := by decide +kernel
theorem d_LogDisk_init_143 : decode prog_1_method_1_code 143 = .ok (.aload_n 0, 1) := by decide +kernel
theorem d_LogDisk_init_144 : decode prog_1_method_1_code 144 = .ok (.getfield 15, 3) := by decide +kernel
theorem d_LogDisk_init_147 : decode prog_1_method_1_code 147 = .ok (.iload 5, 2) := by decide +kernel
theorem d_LogDisk_init_149 : decode prog_1_method_1_code 149 = .ok (.iconst (-1), 1) := by decide +kernel
theorem d_LogDisk_init_150 : decode prog_1_method_1_code 150 = .ok (.iastore, 1) := by decide +kernel
theorem d_LogDisk_init_151 : decode prog_1_method_1_code 151 = .ok (.iinc 5 1, 3) := by decide +kernel
theorem d_LogDisk_init_154 : decode prog_1_method_1_code 154 = .ok (.goto (-41), 3) := by decide +kernel
theorem d_LogDisk_init_157 : decode prog_1_method_1_code 157 = .ok (.aload_n 0, 1) := by decide +kernel
theorem d_LogDisk_init_158 : decode prog_1_method_1_code 158 = .ok (.aload 4, 2) := by decide +kernel
theorem d_LogDisk_init_160 : decode prog_1_method_1_code 160 = .ok (.putfield 78, 3) := by decide +kernel
theorem d_LogDisk_init_163 : decode prog_1_method_1_code 163 = .ok (.aload_n 0, 1) := by decide +kernel
theorem d_LogDisk_init_164 : decode prog_1_method_1_code 164 = .ok (.iload_n 2, 1) := by decide +kernel
theorem d_LogDisk_init_165 : decode prog_1_method_1_code 165 = .ok (.putfield 82, 3) := by decide +kernel
theorem d_LogDisk_init_168 : decode prog_1_method_1_code 168 = .ok (.aload_n 0, 1) := by decide +kernel
theorem d_LogDisk_init_169 : decode prog_1_method_1_code 169 = .ok (.getfield 43, 3) := by decide +kernel
theorem d_LogDisk_init_172 : decode prog_1_method_1_code 172 = .ok (.iload_n 2, 1) := by decide +kernel
theorem d_LogDisk_init_173 : decode prog_1_method_1_code 173 = .ok (.putfield 86, 3) := by decide +kernel
theorem d_LogDisk_init_176 : decode prog_1_method_1_code 176 = .ok (.return_, 1) := by decide +kernel
theorem d_LogDisk_feed_0 : decode prog_1_method_2_code 0 = .ok (.iload_n 3, 1) := by decide +kernel
theorem d_LogDisk_feed_1 : decode prog_1_method_2_code 1 = .ok (.iconst 1, 1) := by decide +kernel
theorem d_LogDisk_feed_2 : decode prog_1_method_2_code 2 = .ok (.if_icmp .lt 9, 3) := by decide +kernel
theorem d_LogDisk_feed_5 : decode prog_1_method_2_code 5 = .ok (.iload_n 3, 1) := by decide +kernel
theorem d_LogDisk_feed_6 : decode prog_1_method_2_code 6 = .ok (.bipush 8, 2) := by decide +kernel
theorem d_LogDisk_feed_8 : decode prog_1_method_2_code 8 = .ok (.if_icmp .le 13, 3) := by decide +kernel
theorem d_LogDisk_feed_11 : decode prog_1_method_2_code 11 = .ok (.new 89, 3) := by decide +kernel
theorem d_LogDisk_feed_14 : decode prog_1_method_2_code 14 = .ok (.dup, 1) := by decide +kernel
theorem d_LogDisk_feed_15 : decode prog_1_method_2_code 15 = .ok (.ldc 91, 2) := by decide +kernel
theorem d_LogDisk_feed_17 : decode prog_1_method_2_code 17 = .ok (.invokespecial 93, 3) := by decide +kernel
theorem d_LogDisk_feed_20 : decode prog_1_method_2_code 20 = .ok (.athrow, 1) := by decide +kernel
theorem d_LogDisk_feed_21 : decode prog_1_method_2_code 21 = .ok (.aload_n 0, 1) := by decide +kernel
theorem d_LogDisk_feed_22 : decode prog_1_method_2_code 22 = .ok (.getfield 22, 3) := by decide +kernel
theorem d_LogDisk_feed_25 : decode prog_1_method_2_code 25 = .ok (.getfield 96, 3) := by decide +kernel
theorem d_LogDisk_feed_28 : decode prog_1_method_2_code 28 = .ok (.sipush 4096, 3) := by decide +kernel
theorem d_LogDisk_feed_31 : decode prog_1_method_2_code 31 = .ok (.iload_n 3, 1) := by decide +kernel
theorem d_LogDisk_feed_32 : decode prog_1_method_2_code 32 = .ok (.isub, 1) := by decide +kernel
theorem d_LogDisk_feed_33 : decode prog_1_method_2_code 33 = .ok (.if_icmp .le 13, 3) := by decide +kernel
theorem d_LogDisk_feed_36 : decode prog_1_method_2_code 36 = .ok (.new 99, 3) := by decide +kernel
theorem d_LogDisk_feed_39 : decode prog_1_method_2_code 39 = .ok (.dup, 1) := by decide +kernel
theorem d_LogDisk_feed_40 : decode prog_1_method_2_code 40 = .ok (.ldc 101, 2) := by decide +kernel
theorem d_LogDisk_feed_42 : decode prog_1_method_2_code 42 = .ok (.invokespecial 103, 3) := by decide +kernel
theorem d_LogDisk_feed_45 : decode prog_1_method_2_code 45 = .ok (.athrow, 1) := by decide +kernel
theorem d_LogDisk_feed_46 : decode prog_1_method_2_code 46 = .ok (.iconst 0, 1) := by decide +kernel
theorem d_LogDisk_feed_47 : decode prog_1_method_2_code 47 = .ok (.istore 4, 2) := by decide +kernel
theorem d_LogDisk_feed_49 : decode prog_1_method_2_code 49 = .ok (.iload 4, 2) := by decide +kernel
theorem d_LogDisk_feed_51 : decode prog_1_method_2_code 51 = .ok (.iload_n 3, 1) := by decide +kernel
theorem d_LogDisk_feed_52 : decode prog_1_method_2_code 52 = .ok (.if_icmp .ge 46, 3) := by decide +kernel
theorem d_LogDisk_feed_55 : decode prog_1_method_2_code 55 = .ok (.aload_n 0, 1) := by decide +kernel
theorem d_LogDisk_feed_56 : decode prog_1_method_2_code 56 = .ok (.getfield 22, 3) := by decide +kernel
theorem d_LogDisk_feed_59 : decode prog_1_method_2_code 59 = .ok (.getfield 104, 3) := by decide +kernel
theorem d_LogDisk_feed_62 : decode prog_1_method_2_code 62 = .ok (.aload_n 0, 1) := by decide +kernel
theorem d_LogDisk_feed_63 : decode prog_1_method_2_code 63 = .ok (.getfield 22, 3) := by decide +kernel
theorem d_LogDisk_feed_66 : decode prog_1_method_2_code 66 = .ok (.getfield 96, 3) := by decide +kernel
theorem d_LogDisk_feed_69 : decode prog_1_method_2_code 69 = .ok (.lload_n 1, 1) := by decide +kernel
theorem d_LogDisk_feed_70 : decode prog_1_method_2_code 70 = .ok (.bipush 8, 2) := by decide +kernel
theorem d_LogDisk_feed_72 : decode prog_1_method_2_code 72 = .ok (.iload 4, 2) := by decide +kernel
theorem d_LogDisk_feed_74 : decode prog_1_method_2_code 74 = .ok (.imul, 1) := by decide +kernel
theorem d_LogDisk_feed_75 : decode prog_1_method_2_code 75 = .ok (.lushr, 1) := by decide +kernel
theorem d_LogDisk_feed_76 : decode prog_1_method_2_code 76 = .ok (.l2i, 1) := by decide +kernel
theorem d_LogDisk_feed_77 : decode prog_1_method_2_code 77 = .ok (.i2b, 1) := by decide +kernel
theorem d_LogDisk_feed_78 : decode prog_1_method_2_code 78 = .ok (.bastore, 1) := by decide +kernel
theorem d_LogDisk_feed_79 : decode prog_1_method_2_code 79 = .ok (.aload_n 0, 1) := by decide +kernel
theorem d_LogDisk_feed_80 : decode prog_1_method_2_code 80 = .ok (.getfield 22, 3) := by decide +kernel
theorem d_LogDisk_feed_83 : decode prog_1_method_2_code 83 = .ok (.dup, 1) := by decide +kernel
theorem d_LogDisk_feed_84 : decode prog_1_method_2_code 84 = .ok (.getfield 96, 3) := by decide +kernel
theorem d_LogDisk_feed_87 : decode prog_1_method_2_code 87 = .ok (.iconst 1, 1) := by decide +kernel
theorem d_LogDisk_feed_88 : decode prog_1_method_2_code 88 = .ok (.iadd, 1) := by decide +kernel
theorem d_LogDisk_feed_89 : decode prog_1_method_2_code 89 = .ok (.putfield 96, 3) := by decide +kernel
theorem d_LogDisk_feed_92 : decode prog_1_method_2_code 92 = .ok (.iinc 4 1, 3) := by decide +kernel
theorem d_LogDisk_feed_95 : decode prog_1_method_2_code 95 = .ok (.goto (-46), 3) := by decide +kernel
theorem d_LogDisk_feed_98 : decode prog_1_method_2_code 98 = .ok (.aload_n 0, 1) := by decide +kernel
theorem d_LogDisk_feed_99 : decode prog_1_method_2_code 99 = .ok (.getfield 22, 3) := by decide +kernel
theorem d_LogDisk_feed_102 : decode prog_1_method_2_code 102 = .ok (.getfield 96, 3) := by decide +kernel
theorem d_LogDisk_feed_105 : decode prog_1_method_2_code 105 = .ok (.ireturn, 1) := by decide +kernel
theorem d_LogDisk_save_0 : decode prog_1_method_3_code 0 = .ok (.iload_n 1, 1) := by decide +kernel
theorem d_LogDisk_save_1 : decode prog_1_method_3_code 1 = .ok (.aload_n 0, 1) := by decide +kernel
theorem d_LogDisk_save_2 : decode prog_1_method_3_code 2 = .ok (.getfield 36, 3) := by decide +kernel
theorem d_LogDisk_save_5 : decode prog_1_method_3_code 5 = .ok (.getfield 108, 3) := by decide +kernel
theorem d_LogDisk_save_8 : decode prog_1_method_3_code 8 = .ok (.if_icmp .lt 9, 3) := by decide +kernel
theorem d_LogDisk_save_11 : decode prog_1_method_3_code 11 = .ok (.iload_n 1, 1) := by decide +kernel
theorem d_LogDisk_save_12 : decode prog_1_method_3_code 12 = .ok (.ldc 111, 2) := by decide +kernel
theorem d_LogDisk_save_14 : decode prog_1_method_3_code 14 = .ok (.if_icmp .le 13, 3) := by decide +kernel
theorem d_LogDisk_save_17 : decode prog_1_method_3_code 17 = .ok (.new 89, 3) := by decide +kernel
theorem d_LogDisk_save_20 : decode prog_1_method_3_code 20 = .ok (.dup, 1) := by decide +kernel
theorem d_LogDisk_save_21 : decode prog_1_method_3_code 21 = .ok (.ldc 112, 2) := by decide +kernel
theorem d_LogDisk_save_23 : decode prog_1_method_3_code 23 = .ok (.invokespecial 93, 3) := by decide +kernel
theorem d_LogDisk_save_26 : decode prog_1_method_3_code 26 = .ok (.athrow, 1) := by decide +kernel
theorem d_LogDisk_save_27 : decode prog_1_method_3_code 27 = .ok (.iload_n 2, 1) := by decide +kernel
theorem d_LogDisk_save_28 : decode prog_1_method_3_code 28 = .ok (.iconst (-1), 1) := by decide +kernel
theorem d_LogDisk_save_29 : decode prog_1_method_3_code 29 = .ok (.if_icmp .lt 9, 3) := by decide +kernel
theorem d_LogDisk_save_32 : decode prog_1_method_3_code 32 = .ok (.iload_n 2, 1) := by decide +kernel
theorem d_LogDisk_save_33 : decode prog_1_method_3_code 33 = .ok (.bipush 6, 2) := by decide +kernel
theorem d_LogDisk_save_35 : decode prog_1_method_3_code 35 = .ok (.if_icmp .le 13, 3) := by decide +kernel
theorem d_LogDisk_save_38 : decode prog_1_method_3_code 38 = .ok (.new 89, 3) := by decide +kernel
theorem d_LogDisk_save_41 : decode prog_1_method_3_code 41 = .ok (.dup, 1) := by decide +kernel
theorem d_LogDisk_save_42 : decode prog_1_method_3_code 42 = .ok (.ldc 114, 2) := by decide +kernel
theorem d_LogDisk_save_44 : decode prog_1_method_3_code 44 = .ok (.invokespecial 93, 3) := by decide +kernel
theorem d_LogDisk_save_47 : decode prog_1_method_3_code 47 = .ok (.athrow, 1) := by decide +kernel
theorem d_LogDisk_save_48 : decode prog_1_method_3_code 48 = .ok (.aload_n 0, 1) := by decide +kernel
theorem d_LogDisk_save_49 : decode prog_1_method_3_code 49 = .ok (.getfield 36, 3) := by decide +kernel
theorem d_LogDisk_save_52 : decode prog_1_method_3_code 52 = .ok (.invokevirtual 116, 3) := by decide +kernel
theorem d_LogDisk_save_55 : decode prog_1_method_3_code 55 = .ok (.istore_n 3, 1) := by decide +kernel
theorem d_LogDisk_save_56 : decode prog_1_method_3_code 56 = .ok (.aload_n 0, 1) := by decide +kernel
theorem d_LogDisk_save_57 : decode prog_1_method_3_code 57 = .ok (.getfield 11, 3) := by decide +kernel
theorem d_LogDisk_save_60 : decode prog_1_method_3_code 60 = .ok (.iload_n 3, 1) := by decide +kernel
theorem d_LogDisk_save_61 : decode prog_1_method_3_code 61 = .ok (.aaload, 1) := by decide +kernel
theorem d_LogDisk_save_62 : decode prog_1_method_3_code 62 = .ok (.bipush 32, 2) := by decide +kernel
theorem d_LogDisk_save_64 : decode prog_1_method_3_code 64 = .ok (.invokevirtual 120, 3) := by decide +kernel
theorem d_LogDisk_save_67 : decode prog_1_method_3_code 67 = .ok (.ifCond .ne 13, 3) := by decide +kernel
theorem d_LogDisk_save_70 : decode prog_1_method_3_code 70 = .ok (.new 124, 3) := by decide +kernel
theorem d_LogDisk_save_73 : decode prog_1_method_3_code 73 = .ok (.dup, 1) := by decide +kernel
theorem d_LogDisk_save_74 : decode prog_1_method_3_code 74 = .ok (.ldc 126, 2) := by decide +kernel
theorem d_LogDisk_save_76 : decode prog_1_method_3_code 76 = .ok (.invokespecial 128, 3) := by decide +kernel
theorem d_LogDisk_save_79 : decode prog_1_method_3_code 79 = .ok (.athrow, 1) := by decide +kernel
theorem d_LogDisk_save_80 : decode prog_1_method_3_code 80 = .ok (.aload_n 0, 1) := by decide +kernel
theorem d_LogDisk_save_81 : decode prog_1_method_3_code 81 = .ok (.getfield 36, 3) := by decide +kernel
theorem d_LogDisk_save_84 : decode prog_1_method_3_code 84 = .ok (.iload_n 3, 1) := by decide +kernel
theorem d_LogDisk_save_85 : decode prog_1_method_3_code 85 = .ok (.aload_n 0, 1) := by decide +kernel
theorem d_LogDisk_save_86 : decode prog_1_method_3_code 86 = .ok (.getfield 36, 3) := by decide +kernel
theorem d_LogDisk_save_89 : decode prog_1_method_3_code 89 = .ok (.getfield 129, 3) := by decide +kernel
theorem d_LogDisk_save_92 : decode prog_1_method_3_code 92 = .ok (.lconst 1, 1) := by decide +kernel
theorem d_LogDisk_save_93 : decode prog_1_method_3_code 93 = .ok (.ladd, 1) := by decide +kernel
theorem d_LogDisk_save_94 : decode prog_1_method_3_code 94 = .ok (.iload_n 1, 1) := by decide +kernel
theorem d_LogDisk_save_95 : decode prog_1_method_3_code 95 = .ok (.iload_n 2, 1) := by decide +kernel
theorem d_LogDisk_save_96 : decode prog_1_method_3_code 96 = .ok (.invokevirtual 133, 3) := by decide +kernel
theorem d_LogDisk_save_99 : decode prog_1_method_3_code 99 = .ok (.aload_n 0, 1) := by decide +kernel
theorem d_LogDisk_save_100 : decode prog_1_method_3_code 100 = .ok (.getfield 36, 3) := by decide +kernel
theorem d_LogDisk_save_103 : decode prog_1_method_3_code 103 = .ok (.iconst 1, 1) := by decide +kernel
theorem d_LogDisk_save_104 : decode prog_1_method_3_code 104 = .ok (.putfield 137, 3) := by decide +kernel
theorem d_LogDisk_save_107 : decode prog_1_method_3_code 107 = .ok (.aload_n 0, 1) := by decide +kernel
theorem d_LogDisk_save_108 : decode prog_1_method_3_code 108 = .ok (.invokevirtual 141, 3) := by decide +kernel
theorem d_LogDisk_save_111 : decode prog_1_method_3_code 111 = .ok (.aload_n 0, 1) := by decide +kernel
theorem d_LogDisk_save_112 : decode prog_1_method_3_code 112 = .ok (.iconst 1, 1) := by decide +kernel
theorem d_LogDisk_save_113 : decode prog_1_method_3_code 113 = .ok (.putfield 144, 3) := by decide +kernel
theorem d_LogDisk_save_116 : decode prog_1_method_3_code 116 = .ok (.iload_n 3, 1) := by decide +kernel
theorem d_LogDisk_save_117 : decode prog_1_method_3_code 117 = .ok (.ireturn, 1) := by decide +kernel
theorem d_LogDisk_append_0 : decode prog_1_method_4_code 0 = .ok (.aload_n 0, 1) := by decide +kernel
theorem d_LogDisk_append_1 : decode prog_1_method_4_code 1 = .ok (.getfield 22, 3) := by decide +kernel
theorem d_LogDisk_append_4 : decode prog_1_method_4_code 4 = .ok (.invokevirtual 147, 3) := by decide +kernel
theorem d_LogDisk_append_7 : decode prog_1_method_4_code 7 = .ok (.istore_n 3, 1) := by decide +kernel
theorem d_LogDisk_append_8 : decode prog_1_method_4_code 8 = .ok (.iload_n 1, 1) := by decide +kernel
theorem d_LogDisk_append_9 : decode prog_1_method_4_code 9 = .ok (.aload_n 0, 1) := by decide +kernel
theorem d_LogDisk_append_10 : decode prog_1_method_4_code 10 = .ok (.aload_n 0, 1) := by decide +kernel
theorem d_LogDisk_append_11 : decode prog_1_method_4_code 11 = .ok (.getfield 150, 3) := by decide +kernel
theorem d_LogDisk_append_14 : decode prog_1_method_4_code 14 = .ok (.invokevirtual 153, 3) := by decide +kernel
theorem d_LogDisk_append_17 : decode prog_1_method_4_code 17 = .ok (.if_icmp .lt 9, 3) := by decide +kernel
theorem d_LogDisk_append_20 : decode prog_1_method_4_code 20 = .ok (.iload_n 1, 1) := by decide +kernel
theorem d_LogDisk_append_21 : decode prog_1_method_4_code 21 = .ok (.ldc 111, 2) := by decide +kernel
theorem d_LogDisk_append_23 : decode prog_1_method_4_code 23 = .ok (.if_icmp .le 13, 3) := by decide +kernel
theorem d_LogDisk_append_26 : decode prog_1_method_4_code 26 = .ok (.new 89, 3) := by decide +kernel
theorem d_LogDisk_append_29 : decode prog_1_method_4_code 29 = .ok (.dup, 1) := by decide +kernel
theorem d_LogDisk_append_30 : decode prog_1_method_4_code 30 = .ok (.ldc 157, 2) := by decide +kernel
theorem d_LogDisk_append_32 : decode prog_1_method_4_code 32 = .ok (.invokespecial 93, 3) := by decide +kernel
theorem d_LogDisk_append_35 : decode prog_1_method_4_code 35 = .ok (.athrow, 1) := by decide +kernel
theorem d_LogDisk_append_36 : decode prog_1_method_4_code 36 = .ok (.iload_n 2, 1) := by decide +kernel
theorem d_LogDisk_append_37 : decode prog_1_method_4_code 37 = .ok (.ifCond .lt 8, 3) := by decide +kernel
theorem d_LogDisk_append_40 : decode prog_1_method_4_code 40 = .ok (.iload_n 2, 1) := by decide +kernel
theorem d_LogDisk_append_41 : decode prog_1_method_4_code 41 = .ok (.iconst 2, 1) := by decide +kernel
theorem d_LogDisk_append_42 : decode prog_1_method_4_code 42 = .ok (.if_icmp .le 13, 3) := by decide +kernel
theorem d_LogDisk_append_45 : decode prog_1_method_4_code 45 = .ok (.new 89, 3) := by decide +kernel
theorem d_LogDisk_append_48 : decode prog_1_method_4_code 48 = .ok (.dup, 1) := by decide +kernel
theorem d_LogDisk_append_49 : decode prog_1_method_4_code 49 = .ok (.ldc 159, 2) := by decide +kernel
theorem d_LogDisk_append_51 : decode prog_1_method_4_code 51 = .ok (.invokespecial 93, 3) := by decide +kernel
theorem d_LogDisk_append_54 : decode prog_1_method_4_code 54 = .ok (.athrow, 1) := by decide +kernel
theorem d_LogDisk_append_55 : decode prog_1_method_4_code 55 = .ok (.aload_n 0, 1) := by decide +kernel
theorem d_LogDisk_append_56 : decode prog_1_method_4_code 56 = .ok (.getfield 150, 3) := by decide +kernel
theorem d_LogDisk_append_59 : decode prog_1_method_4_code 59 = .ok (.aload_n 0, 1) := by decide +kernel
theorem d_LogDisk_append_60 : decode prog_1_method_4_code 60 = .ok (.getfield 43, 3) := by decide +kernel
theorem d_LogDisk_append_63 : decode prog_1_method_4_code 63 = .ok (.getfield 161, 3) := by decide +kernel
theorem d_LogDisk_append_66 : decode prog_1_method_4_code 66 = .ok (.isub, 1) := by decide +kernel
theorem d_LogDisk_append_67 : decode prog_1_method_4_code 67 = .ok (.sipush 300, 3) := by decide +kernel
theorem d_LogDisk_append_70 : decode prog_1_method_4_code 70 = .ok (.if_icmp .lt 13, 3) := by decide +kernel
theorem d_LogDisk_append_73 : decode prog_1_method_4_code 73 = .ok (.new 99, 3) := by decide +kernel
theorem d_LogDisk_append_76 : decode prog_1_method_4_code 76 = .ok (.dup, 1) := by decide +kernel
theorem d_LogDisk_append_77 : decode prog_1_method_4_code 77 = .ok (.ldc 164, 2) := by decide +kernel
theorem d_LogDisk_append_79 : decode prog_1_method_4_code 79 = .ok (.invokespecial 103, 3) := by decide +kernel
theorem d_LogDisk_append_82 : decode prog_1_method_4_code 82 = .ok (.athrow, 1) := by decide +kernel
theorem d_LogDisk_append_83 : decode prog_1_method_4_code 83 = .ok (.aload_n 0, 1) := by decide +kernel
theorem d_LogDisk_append_84 : decode prog_1_method_4_code 84 = .ok (.invokevirtual 166, 3) := by decide +kernel
theorem d_LogDisk_append_87 : decode prog_1_method_4_code 87 = .ok (.istore 4, 2) := by decide +kernel
theorem d_LogDisk_append_89 : decode prog_1_method_4_code 89 = .ok (.iload 4, 2) := by decide +kernel
theorem d_LogDisk_append_91 : decode prog_1_method_4_code 91 = .ok (.ifCond .eq 10, 3) := by decide +kernel
theorem d_LogDisk_append_94 : decode prog_1_method_4_code 94 = .ok (.aload_n 0, 1) := by decide +kernel
theorem d_LogDisk_append_95 : decode prog_1_method_4_code 95 = .ok (.invokevirtual 170, 3) := by decide +kernel
theorem d_LogDisk_append_98 : decode prog_1_method_4_code 98 = .ok (.goto 10, 3) := by decide +kernel
theorem d_LogDisk_append_101 : decode prog_1_method_4_code 101 = .ok (.aload_n 0, 1) := by decide +kernel
theorem d_LogDisk_append_102 : decode prog_1_method_4_code 102 = .ok (.getfield 50, 3) := by decide +kernel
theorem d_LogDisk_append_105 : decode prog_1_method_4_code 105 = .ok (.invokevirtual 173, 3) := by decide +kernel
theorem d_LogDisk_append_108 : decode prog_1_method_4_code 108 = .ok (.istore 5, 2) := by decide +kernel
theorem d_LogDisk_append_110 : decode prog_1_method_4_code 110 = .ok (.iload 4, 2) := by decide +kernel
theorem d_LogDisk_append_112 : decode prog_1_method_4_code 112 = .ok (.ifCond .eq 8, 3) := by decide +kernel
theorem d_LogDisk_append_115 : decode prog_1_method_4_code 115 = .ok (.bipush 24, 2) := by decide +kernel
theorem d_LogDisk_append_117 : decode prog_1_method_4_code 117 = .ok (.goto 4, 3) := by decide +kernel
theorem d_LogDisk_append_120 : decode prog_1_method_4_code 120 = .ok (.iconst 0, 1) := by decide +kernel
theorem d_LogDisk_append_121 : decode prog_1_method_4_code 121 = .ok (.bipush 25, 2) := by decide +kernel
theorem d_LogDisk_append_123 : decode prog_1_method_4_code 123 = .ok (.iadd, 1) := by decide +kernel
theorem d_LogDisk_append_124 : decode prog_1_method_4_code 124 = .ok (.iload_n 3, 1) := by decide +kernel
theorem d_LogDisk_append_125 : decode prog_1_method_4_code 125 = .ok (.iadd, 1) := by decide +kernel
theorem d_LogDisk_append_126 : decode prog_1_method_4_code 126 = .ok (.istore 6, 2) := by decide +kernel
theorem d_LogDisk_append_128 : decode prog_1_method_4_code 128 = .ok (.iload 5, 2) := by decide +kernel
theorem d_LogDisk_append_130 : decode prog_1_method_4_code 130 = .ok (.iconst (-1), 1) := by decide +kernel
theorem d_LogDisk_append_131 : decode prog_1_method_4_code 131 = .ok (.if_icmp .eq 18, 3) := by decide +kernel
theorem d_LogDisk_append_134 : decode prog_1_method_4_code 134 = .ok (.aload_n 0, 1) := by decide +kernel
theorem d_LogDisk_append_135 : decode prog_1_method_4_code 135 = .ok (.getfield 11, 3) := by decide +kernel
theorem d_LogDisk_append_138 : decode prog_1_method_4_code 138 = .ok (.iload 5, 2) := by decide +kernel
theorem d_LogDisk_append_140 : decode prog_1_method_4_code 140 = .ok (.aaload, 1) := by decide +kernel
theorem d_LogDisk_append_141 : decode prog_1_method_4_code 141 = .ok (.iload 6, 2) := by decide +kernel
theorem d_LogDisk_append_143 : decode prog_1_method_4_code 143 = .ok (.invokevirtual 176, 3) := by decide +kernel
theorem d_LogDisk_append_146 : decode prog_1_method_4_code 146 = .ok (.ifCond .ne 13, 3) := by decide +kernel
theorem d_LogDisk_append_149 : decode prog_1_method_4_code 149 = .ok (.new 124, 3) := by decide +kernel
theorem d_LogDisk_append_152 : decode prog_1_method_4_code 152 = .ok (.dup, 1) := by decide +kernel
theorem d_LogDisk_append_153 : decode prog_1_method_4_code 153 = .ok (.ldc 126, 2) := by decide +kernel
theorem d_LogDisk_append_155 : decode prog_1_method_4_code 155 = .ok (.invokespecial 128, 3) := by decide +kernel
theorem d_LogDisk_append_158 : decode prog_1_method_4_code 158 = .ok (.athrow, 1) := by decide +kernel
theorem d_LogDisk_append_159 : decode prog_1_method_4_code 159 = .ok (.iload 4, 2) := by decide +kernel
theorem d_LogDisk_append_161 : decode prog_1_method_4_code 161 = .ok (.ifCond .eq 9, 3) := by decide +kernel
theorem d_LogDisk_append_164 : decode prog_1_method_4_code 164 = .ok (.aload_n 0, 1) := by decide +kernel
theorem d_LogDisk_append_165 : decode prog_1_method_4_code 165 = .ok (.iload 5, 2) := by decide +kernel
theorem d_LogDisk_append_167 : decode prog_1_method_4_code 167 = .ok (.invokevirtual 179, 3) := by decide +kernel
theorem d_LogDisk_append_170 : decode prog_1_method_4_code 170 = .ok (.aload_n 0, 1) := by decide +kernel
theorem d_LogDisk_append_171 : decode prog_1_method_4_code 171 = .ok (.iload 5, 2) := by decide +kernel
theorem d_LogDisk_append_173 : decode prog_1_method_4_code 173 = .ok (.iload_n 1, 1) := by decide +kernel
theorem d_LogDisk_append_174 : decode prog_1_method_4_code 174 = .ok (.iload_n 2, 1) := by decide +kernel
theorem d_LogDisk_append_175 : decode prog_1_method_4_code 175 = .ok (.iload_n 3, 1) := by decide +kernel
theorem d_LogDisk_append_176 : decode prog_1_method_4_code 176 = .ok (.invokevirtual 182, 3) := by decide +kernel
theorem d_LogDisk_append_179 : decode prog_1_method_4_code 179 = .ok (.aload_n 0, 1) := by decide +kernel
theorem d_LogDisk_append_180 : decode prog_1_method_4_code 180 = .ok (.iconst 1, 1) := by decide +kernel
theorem d_LogDisk_append_181 : decode prog_1_method_4_code 181 = .ok (.putfield 144, 3) := by decide +kernel
theorem d_LogDisk_append_184 : decode prog_1_method_4_code 184 = .ok (.aload_n 0, 1) := by decide +kernel
theorem d_LogDisk_append_185 : decode prog_1_method_4_code 185 = .ok (.getfield 150, 3) := by decide +kernel
theorem d_LogDisk_append_188 : decode prog_1_method_4_code 188 = .ok (.ireturn, 1) := by decide +kernel
theorem d_LogDisk_cutFrom_0 : decode prog_1_method_5_code 0 = .ok (.aload_n 0, 1) := by decide +kernel
theorem d_LogDisk_cutFrom_1 : decode prog_1_method_5_code 1 = .ok (.iload_n 1, 1) := by decide +kernel
theorem d_LogDisk_cutFrom_2 : decode prog_1_method_5_code 2 = .ok (.invokevirtual 186, 3) := by decide +kernel
theorem d_LogDisk_cutFrom_5 : decode prog_1_method_5_code 5 = .ok (.ifCond .ne 13, 3) := by decide +kernel
theorem d_LogDisk_cutFrom_8 : decode prog_1_method_5_code 8 = .ok (.new 189, 3) := by decide +kernel
theorem d_LogDisk_cutFrom_11 : decode prog_1_method_5_code 11 = .ok (.dup, 1) := by decide +kernel
theorem d_LogDisk_cutFrom_12 : decode prog_1_method_5_code 12 = .ok (.ldc 191, 2) := by decide +kernel
theorem d_LogDisk_cutFrom_14 : decode prog_1_method_5_code 14 = .ok (.invokespecial 193, 3) := by decide +kernel
theorem d_LogDisk_cutFrom_17 : decode prog_1_method_5_code 17 = .ok (.athrow, 1) := by decide +kernel
theorem d_LogDisk_cutFrom_18 : decode prog_1_method_5_code 18 = .ok (.aload_n 0, 1) := by decide +kernel
theorem d_LogDisk_cutFrom_19 : decode prog_1_method_5_code 19 = .ok (.getfield 150, 3) := by decide +kernel
theorem d_LogDisk_cutFrom_22 : decode prog_1_method_5_code 22 = .ok (.iload_n 1, 1) := by decide +kernel
theorem d_LogDisk_cutFrom_23 : decode prog_1_method_5_code 23 = .ok (.isub, 1) := by decide +kernel
theorem d_LogDisk_cutFrom_24 : decode prog_1_method_5_code 24 = .ok (.iconst 1, 1) := by decide +kernel
theorem d_LogDisk_cutFrom_25 : decode prog_1_method_5_code 25 = .ok (.iadd, 1) := by decide +kernel
theorem d_LogDisk_cutFrom_26 : decode prog_1_method_5_code 26 = .ok (.istore_n 2, 1) := by decide +kernel
theorem d_LogDisk_cutFrom_27 : decode prog_1_method_5_code 27 = .ok (.aload_n 0, 1) := by decide +kernel
theorem d_LogDisk_cutFrom_28 : decode prog_1_method_5_code 28 = .ok (.getfield 50, 3) := by decide +kernel
theorem d_LogDisk_cutFrom_31 : decode prog_1_method_5_code 31 = .ok (.getfield 194, 3) := by decide +kernel
theorem d_LogDisk_cutFrom_34 : decode prog_1_method_5_code 34 = .ok (.iconst 1, 1) := by decide +kernel
theorem d_LogDisk_cutFrom_35 : decode prog_1_method_5_code 35 = .ok (.isub, 1) := by decide +kernel
theorem d_LogDisk_cutFrom_36 : decode prog_1_method_5_code 36 = .ok (.istore_n 3, 1) := by decide +kernel
theorem d_LogDisk_cutFrom_37 : decode prog_1_method_5_code 37 = .ok (.iload_n 3, 1) := by decide +kernel
theorem d_LogDisk_cutFrom_38 : decode prog_1_method_5_code 38 = .ok (.ifCond .lt 52, 3) := by decide +kernel
theorem d_LogDisk_cutFrom_41 : decode prog_1_method_5_code 41 = .ok (.aload_n 0, 1) := by decide +kernel
theorem d_LogDisk_cutFrom_42 : decode prog_1_method_5_code 42 = .ok (.getfield 50, 3) := by decide +kernel
theorem d_LogDisk_cutFrom_45 : decode prog_1_method_5_code 45 = .ok (.getfield 197, 3) := by decide +kernel
theorem d_LogDisk_cutFrom_48 : decode prog_1_method_5_code 48 = .ok (.iload_n 3, 1) := by decide +kernel
theorem d_LogDisk_cutFrom_49 : decode prog_1_method_5_code 49 = .ok (.iaload, 1) := by decide +kernel
theorem d_LogDisk_cutFrom_50 : decode prog_1_method_5_code 50 = .ok (.iload_n 1, 1) := by decide +kernel
theorem d_LogDisk_cutFrom_51 : decode prog_1_method_5_code 51 = .ok (.if_icmp .lt 39, 3) := by decide +kernel
theorem d_LogDisk_cutFrom_54 : decode prog_1_method_5_code 54 = .ok (.aload_n 0, 1) := by decide +kernel
theorem d_LogDisk_cutFrom_55 : decode prog_1_method_5_code 55 = .ok (.getfield 11, 3) := by decide +kernel
theorem d_LogDisk_cutFrom_58 : decode prog_1_method_5_code 58 = .ok (.aload_n 0, 1) := by decide +kernel
theorem d_LogDisk_cutFrom_59 : decode prog_1_method_5_code 59 = .ok (.getfield 50, 3) := by decide +kernel
theorem d_LogDisk_cutFrom_62 : decode prog_1_method_5_code 62 = .ok (.getfield 200, 3) := by decide +kernel
theorem d_LogDisk_cutFrom_65 : decode prog_1_method_5_code 65 = .ok (.iload_n 3, 1) := by decide +kernel
theorem d_LogDisk_cutFrom_66 : decode prog_1_method_5_code 66 = .ok (.iaload, 1) := by decide +kernel
theorem d_LogDisk_cutFrom_67 : decode prog_1_method_5_code 67 = .ok (.aaload, 1) := by decide +kernel
theorem d_LogDisk_cutFrom_68 : decode prog_1_method_5_code 68 = .ok (.invokevirtual 203, 3) := by decide +kernel
theorem d_LogDisk_cutFrom_71 : decode prog_1_method_5_code 71 = .ok (.aload_n 0, 1) := by decide +kernel
theorem d_LogDisk_cutFrom_72 : decode prog_1_method_5_code 72 = .ok (.getfield 50, 3) := by decide +kernel
theorem d_LogDisk_cutFrom_75 : decode prog_1_method_5_code 75 = .ok (.dup, 1) := by decide +kernel
theorem d_LogDisk_cutFrom_76 : decode prog_1_method_5_code 76 = .ok (.getfield 194, 3) := by decide +kernel
theorem d_LogDisk_cutFrom_79 : decode prog_1_method_5_code 79 = .ok (.iconst 1, 1) := by decide +kernel
theorem d_LogDisk_cutFrom_80 : decode prog_1_method_5_code 80 = .ok (.isub, 1) := by decide +kernel
theorem d_LogDisk_cutFrom_81 : decode prog_1_method_5_code 81 = .ok (.putfield 194, 3) := by decide +kernel
theorem d_LogDisk_cutFrom_84 : decode prog_1_method_5_code 84 = .ok (.iinc 3 (-1), 3) := by decide +kernel
theorem d_LogDisk_cutFrom_87 : decode prog_1_method_5_code 87 = .ok (.goto (-50), 3) := by decide +kernel
theorem d_LogDisk_cutFrom_90 : decode prog_1_method_5_code 90 = .ok (.aload_n 0, 1) := by decide +kernel
theorem d_LogDisk_cutFrom_91 : decode prog_1_method_5_code 91 = .ok (.getfield 57, 3) := by decide +kernel
theorem d_LogDisk_cutFrom_94 : decode prog_1_method_5_code 94 = .ok (.iload_n 1, 1) := by decide +kernel
theorem d_LogDisk_cutFrom_95 : decode prog_1_method_5_code 95 = .ok (.invokevirtual 206, 3) := by decide +kernel
theorem d_LogDisk_cutFrom_98 : decode prog_1_method_5_code 98 = .ok (.istore_n 3, 1) := by decide +kernel
theorem d_LogDisk_cutFrom_99 : decode prog_1_method_5_code 99 = .ok (.aload_n 0, 1) := by decide +kernel
theorem d_LogDisk_cutFrom_100 : decode prog_1_method_5_code 100 = .ok (.getfield 50, 3) := by decide +kernel
theorem d_LogDisk_cutFrom_103 : decode prog_1_method_5_code 103 = .ok (.invokevirtual 173, 3) := by decide +kernel
theorem d_LogDisk_cutFrom_106 : decode prog_1_method_5_code 106 = .ok (.aload_n 0, 1) := by decide +kernel
theorem d_LogDisk_cutFrom_107 : decode prog_1_method_5_code 107 = .ok (.getfield 57, 3) := by decide +kernel
theorem d_LogDisk_cutFrom_110 : decode prog_1_method_5_code 110 = .ok (.getfield 209, 3) := by decide +kernel
theorem d_LogDisk_cutFrom_113 : decode prog_1_method_5_code 113 = .ok (.iload_n 3, 1) := by decide +kernel
theorem d_LogDisk_cutFrom_114 : decode prog_1_method_5_code 114 = .ok (.iaload, 1) := by decide +kernel
theorem d_LogDisk_cutFrom_115 : decode prog_1_method_5_code 115 = .ok (.if_icmp .ne 29, 3) := by decide +kernel
theorem d_LogDisk_cutFrom_118 : decode prog_1_method_5_code 118 = .ok (.aload_n 0, 1) := by decide +kernel
theorem d_LogDisk_cutFrom_119 : decode prog_1_method_5_code 119 = .ok (.getfield 11, 3) := by decide +kernel
theorem d_LogDisk_cutFrom_122 : decode prog_1_method_5_code 122 = .ok (.aload_n 0, 1) := by decide +kernel
theorem d_LogDisk_cutFrom_123 : decode prog_1_method_5_code 123 = .ok (.getfield 57, 3) := by decide +kernel
theorem d_LogDisk_cutFrom_126 : decode prog_1_method_5_code 126 = .ok (.getfield 209, 3) := by decide +kernel
theorem d_LogDisk_cutFrom_129 : decode prog_1_method_5_code 129 = .ok (.iload_n 3, 1) := by decide +kernel
theorem d_LogDisk_cutFrom_130 : decode prog_1_method_5_code 130 = .ok (.iaload, 1) := by decide +kernel
theorem d_LogDisk_cutFrom_131 : decode prog_1_method_5_code 131 = .ok (.aaload, 1) := by decide +kernel
theorem d_LogDisk_cutFrom_132 : decode prog_1_method_5_code 132 = .ok (.aload_n 0, 1) := by decide +kernel
theorem d_LogDisk_cutFrom_133 : decode prog_1_method_5_code 133 = .ok (.getfield 57, 3) := by decide +kernel
theorem d_LogDisk_cutFrom_136 : decode prog_1_method_5_code 136 = .ok (.getfield 210, 3) := by decide +kernel
theorem d_LogDisk_cutFrom_139 : decode prog_1_method_5_code 139 = .ok (.iload_n 3, 1) := by decide +kernel
theorem d_LogDisk_cutFrom_140 : decode prog_1_method_5_code 140 = .ok (.iaload, 1) := by decide +kernel
theorem d_LogDisk_cutFrom_141 : decode prog_1_method_5_code 141 = .ok (.invokevirtual 213, 3) := by decide +kernel
theorem d_LogDisk_cutFrom_144 : decode prog_1_method_5_code 144 = .ok (.aload_n 0, 1) := by decide +kernel
theorem d_LogDisk_cutFrom_145 : decode prog_1_method_5_code 145 = .ok (.iload_n 1, 1) := by decide +kernel
theorem d_LogDisk_cutFrom_146 : decode prog_1_method_5_code 146 = .ok (.iconst 1, 1) := by decide +kernel
theorem d_LogDisk_cutFrom_147 : decode prog_1_method_5_code 147 = .ok (.isub, 1) := by decide +kernel
theorem d_LogDisk_cutFrom_148 : decode prog_1_method_5_code 148 = .ok (.putfield 150, 3) := by decide +kernel
theorem d_LogDisk_cutFrom_151 : decode prog_1_method_5_code 151 = .ok (.aload_n 0, 1) := by decide +kernel
theorem d_LogDisk_cutFrom_152 : decode prog_1_method_5_code 152 = .ok (.iconst 1, 1) := by decide +kernel
theorem d_LogDisk_cutFrom_153 : decode prog_1_method_5_code 153 = .ok (.putfield 144, 3) := by decide +kernel
theorem d_LogDisk_cutFrom_156 : decode prog_1_method_5_code 156 = .ok (.iload_n 2, 1) := by decide +kernel
theorem d_LogDisk_cutFrom_157 : decode prog_1_method_5_code 157 = .ok (.ireturn, 1) := by decide +kernel
theorem d_LogDisk_compact_0 : decode prog_1_method_6_code 0 = .ok (.aload_n 0, 1) := by decide +kernel
theorem d_LogDisk_compact_1 : decode prog_1_method_6_code 1 = .ok (.getfield 22, 3) := by decide +kernel
theorem d_LogDisk_compact_4 : decode prog_1_method_6_code 4 = .ok (.invokevirtual 147, 3) := by decide +kernel
theorem d_LogDisk_compact_7 : decode prog_1_method_6_code 7 = .ok (.istore_n 3, 1) := by decide +kernel
theorem d_LogDisk_compact_8 : decode prog_1_method_6_code 8 = .ok (.aload_n 0, 1) := by decide +kernel
theorem d_LogDisk_compact_9 : decode prog_1_method_6_code 9 = .ok (.iload_n 1, 1) := by decide +kernel
theorem d_LogDisk_compact_10 : decode prog_1_method_6_code 10 = .ok (.invokevirtual 186, 3) := by decide +kernel
theorem d_LogDisk_compact_13 : decode prog_1_method_6_code 13 = .ok (.ifCond .ne 13, 3) := by decide +kernel
theorem d_LogDisk_compact_16 : decode prog_1_method_6_code 16 = .ok (.new 189, 3) := by decide +kernel
theorem d_LogDisk_compact_19 : decode prog_1_method_6_code 19 = .ok (.dup, 1) := by decide +kernel
theorem d_LogDisk_compact_20 : decode prog_1_method_6_code 20 = .ok (.ldc 191, 2) := by decide +kernel
theorem d_LogDisk_compact_22 : decode prog_1_method_6_code 22 = .ok (.invokespecial 193, 3) := by decide +kernel
theorem d_LogDisk_compact_25 : decode prog_1_method_6_code 25 = .ok (.athrow, 1) := by decide +kernel
theorem d_LogDisk_compact_26 : decode prog_1_method_6_code 26 = .ok (.aload_n 0, 1) := by decide +kernel
theorem d_LogDisk_compact_27 : decode prog_1_method_6_code 27 = .ok (.getfield 11, 3) := by decide +kernel
theorem d_LogDisk_compact_30 : decode prog_1_method_6_code 30 = .ok (.aload_n 0, 1) := by decide +kernel
theorem d_LogDisk_compact_31 : decode prog_1_method_6_code 31 = .ok (.getfield 43, 3) := by decide +kernel
theorem d_LogDisk_compact_34 : decode prog_1_method_6_code 34 = .ok (.invokevirtual 216, 3) := by decide +kernel
theorem d_LogDisk_compact_37 : decode prog_1_method_6_code 37 = .ok (.aaload, 1) := by decide +kernel
theorem d_LogDisk_compact_38 : decode prog_1_method_6_code 38 = .ok (.bipush 20, 2) := by decide +kernel
theorem d_LogDisk_compact_40 : decode prog_1_method_6_code 40 = .ok (.iload_n 3, 1) := by decide +kernel
theorem d_LogDisk_compact_41 : decode prog_1_method_6_code 41 = .ok (.iadd, 1) := by decide +kernel
theorem d_LogDisk_compact_42 : decode prog_1_method_6_code 42 = .ok (.invokevirtual 120, 3) := by decide +kernel
theorem d_LogDisk_compact_45 : decode prog_1_method_6_code 45 = .ok (.ifCond .ne 13, 3) := by decide +kernel
theorem d_LogDisk_compact_48 : decode prog_1_method_6_code 48 = .ok (.new 124, 3) := by decide +kernel
theorem d_LogDisk_compact_51 : decode prog_1_method_6_code 51 = .ok (.dup, 1) := by decide +kernel
theorem d_LogDisk_compact_52 : decode prog_1_method_6_code 52 = .ok (.ldc 126, 2) := by decide +kernel
theorem d_LogDisk_compact_54 : decode prog_1_method_6_code 54 = .ok (.invokespecial 128, 3) := by decide +kernel
theorem d_LogDisk_compact_57 : decode prog_1_method_6_code 57 = .ok (.athrow, 1) := by decide +kernel
theorem d_LogDisk_compact_58 : decode prog_1_method_6_code 58 = .ok (.iload_n 1, 1) := by decide +kernel
theorem d_LogDisk_compact_59 : decode prog_1_method_6_code 59 = .ok (.aload_n 0, 1) := by decide +kernel
theorem d_LogDisk_compact_60 : decode prog_1_method_6_code 60 = .ok (.getfield 43, 3) := by decide +kernel
theorem d_LogDisk_compact_63 : decode prog_1_method_6_code 63 = .ok (.getfield 161, 3) := by decide +kernel
theorem d_LogDisk_compact_66 : decode prog_1_method_6_code 66 = .ok (.isub, 1) := by decide +kernel
theorem d_LogDisk_compact_67 : decode prog_1_method_6_code 67 = .ok (.istore 4, 2) := by decide +kernel
theorem d_LogDisk_compact_69 : decode prog_1_method_6_code 69 = .ok (.aload_n 0, 1) := by decide +kernel
theorem d_LogDisk_compact_70 : decode prog_1_method_6_code 70 = .ok (.iload_n 1, 1) := by decide +kernel
theorem d_LogDisk_compact_71 : decode prog_1_method_6_code 71 = .ok (.aload_n 0, 1) := by decide +kernel
theorem d_LogDisk_compact_72 : decode prog_1_method_6_code 72 = .ok (.iload_n 1, 1) := by decide +kernel
theorem d_LogDisk_compact_73 : decode prog_1_method_6_code 73 = .ok (.invokevirtual 153, 3) := by decide +kernel
theorem d_LogDisk_compact_76 : decode prog_1_method_6_code 76 = .ok (.iload_n 2, 1) := by decide +kernel
theorem d_LogDisk_compact_77 : decode prog_1_method_6_code 77 = .ok (.iload_n 3, 1) := by decide +kernel
theorem d_LogDisk_compact_78 : decode prog_1_method_6_code 78 = .ok (.invokevirtual 217, 3) := by decide +kernel
theorem d_LogDisk_compact_81 : decode prog_1_method_6_code 81 = .ok (.iload 4, 2) := by decide +kernel
theorem d_LogDisk_compact_83 : decode prog_1_method_6_code 83 = .ok (.ireturn, 1) := by decide +kernel
theorem d_LogDisk_take_0 : decode prog_1_method_7_code 0 = .ok (.aload_n 0, 1) := by decide +kernel
theorem d_LogDisk_take_1 : decode prog_1_method_7_code 1 = .ok (.getfield 22, 3) := by decide +kernel
theorem d_LogDisk_take_4 : decode prog_1_method_7_code 4 = .ok (.invokevirtual 147, 3) := by decide +kernel
theorem d_LogDisk_take_7 : decode prog_1_method_7_code 7 = .ok (.istore 4, 2) := by decide +kernel
theorem d_LogDisk_take_9 : decode prog_1_method_7_code 9 = .ok (.iload_n 1, 1) := by decide +kernel
theorem d_LogDisk_take_10 : decode prog_1_method_7_code 10 = .ok (.aload_n 0, 1) := by decide +kernel
theorem d_LogDisk_take_11 : decode prog_1_method_7_code 11 = .ok (.getfield 43, 3) := by decide +kernel
theorem d_LogDisk_take_14 : decode prog_1_method_7_code 14 = .ok (.getfield 161, 3) := by decide +kernel
theorem d_LogDisk_take_17 : decode prog_1_method_7_code 17 = .ok (.if_icmp .le 9, 3) := by decide +kernel
theorem d_LogDisk_take_20 : decode prog_1_method_7_code 20 = .ok (.iload_n 1, 1) := by decide +kernel
theorem d_LogDisk_take_21 : decode prog_1_method_7_code 21 = .ok (.ldc 111, 2) := by decide +kernel
theorem d_LogDisk_take_23 : decode prog_1_method_7_code 23 = .ok (.if_icmp .le 13, 3) := by decide +kernel
theorem d_LogDisk_take_26 : decode prog_1_method_7_code 26 = .ok (.new 89, 3) := by decide +kernel
theorem d_LogDisk_take_29 : decode prog_1_method_7_code 29 = .ok (.dup, 1) := by decide +kernel
theorem d_LogDisk_take_30 : decode prog_1_method_7_code 30 = .ok (.ldc 220, 2) := by decide +kernel
theorem d_LogDisk_take_32 : decode prog_1_method_7_code 32 = .ok (.invokespecial 93, 3) := by decide +kernel
theorem d_LogDisk_take_35 : decode prog_1_method_7_code 35 = .ok (.athrow, 1) := by decide +kernel
theorem d_LogDisk_take_36 : decode prog_1_method_7_code 36 = .ok (.iload_n 2, 1) := by decide +kernel
theorem d_LogDisk_take_37 : decode prog_1_method_7_code 37 = .ok (.ifCond .lt 9, 3) := by decide +kernel
theorem d_LogDisk_take_40 : decode prog_1_method_7_code 40 = .ok (.iload_n 2, 1) := by decide +kernel
theorem d_LogDisk_take_41 : decode prog_1_method_7_code 41 = .ok (.ldc 111, 2) := by decide +kernel
theorem d_LogDisk_take_43 : decode prog_1_method_7_code 43 = .ok (.if_icmp .le 13, 3) := by decide +kernel
theorem d_LogDisk_take_46 : decode prog_1_method_7_code 46 = .ok (.new 89, 3) := by decide +kernel
theorem d_LogDisk_take_49 : decode prog_1_method_7_code 49 = .ok (.dup, 1) := by decide +kernel
theorem d_LogDisk_take_50 : decode prog_1_method_7_code 50 = .ok (.ldc 222, 2) := by decide +kernel
theorem d_LogDisk_take_52 : decode prog_1_method_7_code 52 = .ok (.invokespecial 93, 3) := by decide +kernel
theorem d_LogDisk_take_55 : decode prog_1_method_7_code 55 = .ok (.athrow, 1) := by decide +kernel
theorem d_LogDisk_take_56 : decode prog_1_method_7_code 56 = .ok (.aload_n 0, 1) := by decide +kernel
theorem d_LogDisk_take_57 : decode prog_1_method_7_code 57 = .ok (.getfield 11, 3) := by decide +kernel
theorem d_LogDisk_take_60 : decode prog_1_method_7_code 60 = .ok (.aload_n 0, 1) := by decide +kernel
theorem d_LogDisk_take_61 : decode prog_1_method_7_code 61 = .ok (.getfield 43, 3) := by decide +kernel
theorem d_LogDisk_take_64 : decode prog_1_method_7_code 64 = .ok (.invokevirtual 216, 3) := by decide +kernel
theorem d_LogDisk_take_67 : decode prog_1_method_7_code 67 = .ok (.aaload, 1) := by decide +kernel
theorem d_LogDisk_take_68 : decode prog_1_method_7_code 68 = .ok (.bipush 20, 2) := by decide +kernel
theorem d_LogDisk_take_70 : decode prog_1_method_7_code 70 = .ok (.iload 4, 2) := by decide +kernel
theorem d_LogDisk_take_72 : decode prog_1_method_7_code 72 = .ok (.iadd, 1) := by decide +kernel
theorem d_LogDisk_take_73 : decode prog_1_method_7_code 73 = .ok (.invokevirtual 120, 3) := by decide +kernel
theorem d_LogDisk_take_76 : decode prog_1_method_7_code 76 = .ok (.ifCond .ne 13, 3) := by decide +kernel
theorem d_LogDisk_take_79 : decode prog_1_method_7_code 79 = .ok (.new 124, 3) := by decide +kernel
theorem d_LogDisk_take_82 : decode prog_1_method_7_code 82 = .ok (.dup, 1) := by decide +kernel
theorem d_LogDisk_take_83 : decode prog_1_method_7_code 83 = .ok (.ldc 126, 2) := by decide +kernel
theorem d_LogDisk_take_85 : decode prog_1_method_7_code 85 = .ok (.invokespecial 128, 3) := by decide +kernel
theorem d_LogDisk_take_88 : decode prog_1_method_7_code 88 = .ok (.athrow, 1) := by decide +kernel
theorem d_LogDisk_take_89 : decode prog_1_method_7_code 89 = .ok (.aload_n 0, 1) := by decide +kernel
theorem d_LogDisk_take_90 : decode prog_1_method_7_code 90 = .ok (.iload_n 1, 1) := by decide +kernel
theorem d_LogDisk_take_91 : decode prog_1_method_7_code 91 = .ok (.invokevirtual 186, 3) := by decide +kernel
theorem d_LogDisk_take_94 : decode prog_1_method_7_code 94 = .ok (.ifCond .eq 12, 3) := by decide +kernel
theorem d_LogDisk_take_97 : decode prog_1_method_7_code 97 = .ok (.aload_n 0, 1) := by decide +kernel
theorem d_LogDisk_take_98 : decode prog_1_method_7_code 98 = .ok (.iload_n 1, 1) := by decide +kernel
theorem d_LogDisk_take_99 : decode prog_1_method_7_code 99 = .ok (.invokevirtual 153, 3) := by decide +kernel
theorem d_LogDisk_take_102 : decode prog_1_method_7_code 102 = .ok (.iload_n 2, 1) := by decide +kernel
theorem d_LogDisk_take_103 : decode prog_1_method_7_code 103 = .ok (.if_icmp .eq 8, 3) := by decide +kernel
theorem d_LogDisk_take_106 : decode prog_1_method_7_code 106 = .ok (.aload_n 0, 1) := by decide +kernel
theorem d_LogDisk_take_107 : decode prog_1_method_7_code 107 = .ok (.iload_n 1, 1) := by decide +kernel
theorem d_LogDisk_take_108 : decode prog_1_method_7_code 108 = .ok (.putfield 150, 3) := by decide +kernel
theorem d_LogDisk_take_111 : decode prog_1_method_7_code 111 = .ok (.aload_n 0, 1) := by decide +kernel
theorem d_LogDisk_take_112 : decode prog_1_method_7_code 112 = .ok (.iload_n 1, 1) := by decide +kernel
theorem d_LogDisk_take_113 : decode prog_1_method_7_code 113 = .ok (.iload_n 2, 1) := by decide +kernel
theorem d_LogDisk_take_114 : decode prog_1_method_7_code 114 = .ok (.iload_n 3, 1) := by decide +kernel
theorem d_LogDisk_take_115 : decode prog_1_method_7_code 115 = .ok (.iload 4, 2) := by decide +kernel
theorem d_LogDisk_take_117 : decode prog_1_method_7_code 117 = .ok (.invokevirtual 217, 3) := by decide +kernel
theorem d_LogDisk_take_120 : decode prog_1_method_7_code 120 = .ok (.aload_n 0, 1) := by decide +kernel
theorem d_LogDisk_take_121 : decode prog_1_method_7_code 121 = .ok (.getfield 150, 3) := by decide +kernel
theorem d_LogDisk_take_124 : decode prog_1_method_7_code 124 = .ok (.ireturn, 1) := by decide +kernel
theorem d_LogDisk_sync_0 : decode prog_1_method_8_code 0 = .ok (.aload_n 0, 1) := by decide +kernel
theorem d_LogDisk_sync_1 : decode prog_1_method_8_code 1 = .ok (.getfield 144, 3) := by decide +kernel
theorem d_LogDisk_sync_4 : decode prog_1_method_8_code 4 = .ok (.istore_n 1, 1) := by decide +kernel
theorem d_LogDisk_sync_5 : decode prog_1_method_8_code 5 = .ok (.aload_n 0, 1) := by decide +kernel
theorem d_LogDisk_sync_6 : decode prog_1_method_8_code 6 = .ok (.invokevirtual 224, 3) := by decide +kernel
theorem d_LogDisk_sync_9 : decode prog_1_method_8_code 9 = .ok (.iload_n 1, 1) := by decide +kernel
theorem d_LogDisk_sync_10 : decode prog_1_method_8_code 10 = .ok (.ireturn, 1) := by decide +kernel
theorem d_LogDisk_keep_0 : decode prog_1_method_9_code 0 = .ok (.iload_n 1, 1) := by decide +kernel
theorem d_LogDisk_keep_1 : decode prog_1_method_9_code 1 = .ok (.invokestatic 227, 3) := by decide +kernel
theorem d_LogDisk_keep_4 : decode prog_1_method_9_code 4 = .ok (.ifCond .ne 13, 3) := by decide +kernel
theorem d_LogDisk_keep_7 : decode prog_1_method_9_code 7 = .ok (.new 189, 3) := by decide +kernel
theorem d_LogDisk_keep_10 : decode prog_1_method_9_code 10 = .ok (.dup, 1) := by decide +kernel
theorem d_LogDisk_keep_11 : decode prog_1_method_9_code 11 = .ok (.ldc 230, 2) := by decide +kernel
theorem d_LogDisk_keep_13 : decode prog_1_method_9_code 13 = .ok (.invokespecial 193, 3) := by decide +kernel
theorem d_LogDisk_keep_16 : decode prog_1_method_9_code 16 = .ok (.athrow, 1) := by decide +kernel
theorem d_LogDisk_keep_17 : decode prog_1_method_9_code 17 = .ok (.iload_n 2, 1) := by decide +kernel
theorem d_LogDisk_keep_18 : decode prog_1_method_9_code 18 = .ok (.ifCond .ge 13, 3) := by decide +kernel
theorem d_LogDisk_keep_21 : decode prog_1_method_9_code 21 = .ok (.new 89, 3) := by decide +kernel
theorem d_LogDisk_keep_24 : decode prog_1_method_9_code 24 = .ok (.dup, 1) := by decide +kernel
theorem d_LogDisk_keep_25 : decode prog_1_method_9_code 25 = .ok (.ldc 232, 2) := by decide +kernel
theorem d_LogDisk_keep_27 : decode prog_1_method_9_code 27 = .ok (.invokespecial 93, 3) := by decide +kernel
theorem d_LogDisk_keep_30 : decode prog_1_method_9_code 30 = .ok (.athrow, 1) := by decide +kernel
theorem d_LogDisk_keep_31 : decode prog_1_method_9_code 31 = .ok (.aload_n 0, 1) := by decide +kernel
theorem d_LogDisk_keep_32 : decode prog_1_method_9_code 32 = .ok (.getfield 15, 3) := by decide +kernel
theorem d_LogDisk_keep_35 : decode prog_1_method_9_code 35 = .ok (.iload_n 1, 1) := by decide +kernel
theorem d_LogDisk_keep_36 : decode prog_1_method_9_code 36 = .ok (.iload_n 2, 1) := by decide +kernel
theorem d_LogDisk_keep_37 : decode prog_1_method_9_code 37 = .ok (.iastore, 1) := by decide +kernel
theorem d_LogDisk_keep_38 : decode prog_1_method_9_code 38 = .ok (.return_, 1) := by decide +kernel
theorem d_LogDisk_crash_0 : decode prog_1_method_10_code 0 = .ok (.aload_n 0, 1) := by decide +kernel
theorem d_LogDisk_crash_1 : decode prog_1_method_10_code 1 = .ok (.lload_n 1, 1) := by decide +kernel
theorem d_LogDisk_crash_2 : decode prog_1_method_10_code 2 = .ok (.invokevirtual 234, 3) := by decide +kernel
theorem d_LogDisk_crash_5 : decode prog_1_method_10_code 5 = .ok (.aload_n 0, 1) := by decide +kernel
theorem d_LogDisk_crash_6 : decode prog_1_method_10_code 6 = .ok (.invokevirtual 238, 3) := by decide +kernel
theorem d_LogDisk_crash_9 : decode prog_1_method_10_code 9 = .ok (.aload_n 0, 1) := by decide +kernel
theorem d_LogDisk_crash_10 : decode prog_1_method_10_code 10 = .ok (.invokevirtual 241, 3) := by decide +kernel
theorem d_LogDisk_crash_13 : decode prog_1_method_10_code 13 = .ok (.aload_n 0, 1) := by decide +kernel
theorem d_LogDisk_crash_14 : decode prog_1_method_10_code 14 = .ok (.invokevirtual 244, 3) := by decide +kernel
theorem d_LogDisk_crash_17 : decode prog_1_method_10_code 17 = .ok (.aload_n 0, 1) := by decide +kernel
theorem d_LogDisk_crash_18 : decode prog_1_method_10_code 18 = .ok (.invokevirtual 224, 3) := by decide +kernel
theorem d_LogDisk_crash_21 : decode prog_1_method_10_code 21 = .ok (.aload_n 0, 1) := by decide +kernel
theorem d_LogDisk_crash_22 : decode prog_1_method_10_code 22 = .ok (.getfield 150, 3) := by decide +kernel
theorem d_LogDisk_crash_25 : decode prog_1_method_10_code 25 = .ok (.ireturn, 1) := by decide +kernel
theorem d_LogDisk_state_0 : decode prog_1_method_11_code 0 = .ok (.iload_n 1, 1) := by decide +kernel
theorem d_LogDisk_state_1 : decode prog_1_method_11_code 1 = .ok (.tableswitch 146 0 10 #[59, 67, 75, 83, 91, 99, 104, 109, 122, 130, 138], 59) := by decide +kernel
theorem d_LogDisk_state_60 : decode prog_1_method_11_code 60 = .ok (.aload_n 0, 1) := by decide +kernel
theorem d_LogDisk_state_61 : decode prog_1_method_11_code 61 = .ok (.getfield 36, 3) := by decide +kernel
theorem d_LogDisk_state_64 : decode prog_1_method_11_code 64 = .ok (.getfield 108, 3) := by decide +kernel
theorem d_LogDisk_state_67 : decode prog_1_method_11_code 67 = .ok (.ireturn, 1) := by decide +kernel
theorem d_LogDisk_state_68 : decode prog_1_method_11_code 68 = .ok (.aload_n 0, 1) := by decide +kernel
theorem d_LogDisk_state_69 : decode prog_1_method_11_code 69 = .ok (.getfield 36, 3) := by decide +kernel
theorem d_LogDisk_state_72 : decode prog_1_method_11_code 72 = .ok (.getfield 247, 3) := by decide +kernel
theorem d_LogDisk_state_75 : decode prog_1_method_11_code 75 = .ok (.ireturn, 1) := by decide +kernel
theorem d_LogDisk_state_76 : decode prog_1_method_11_code 76 = .ok (.aload_n 0, 1) := by decide +kernel
theorem d_LogDisk_state_77 : decode prog_1_method_11_code 77 = .ok (.getfield 43, 3) := by decide +kernel
theorem d_LogDisk_state_80 : decode prog_1_method_11_code 80 = .ok (.getfield 161, 3) := by decide +kernel
theorem d_LogDisk_state_83 : decode prog_1_method_11_code 83 = .ok (.ireturn, 1) := by decide +kernel
theorem d_LogDisk_state_84 : decode prog_1_method_11_code 84 = .ok (.aload_n 0, 1) := by decide +kernel
theorem d_LogDisk_state_85 : decode prog_1_method_11_code 85 = .ok (.getfield 43, 3) := by decide +kernel
theorem d_LogDisk_state_88 : decode prog_1_method_11_code 88 = .ok (.getfield 250, 3) := by decide +kernel
theorem d_LogDisk_state_91 : decode prog_1_method_11_code 91 = .ok (.ireturn, 1) := by decide +kernel
theorem d_LogDisk_state_92 : decode prog_1_method_11_code 92 = .ok (.aload_n 0, 1) := by decide +kernel
theorem d_LogDisk_state_93 : decode prog_1_method_11_code 93 = .ok (.getfield 43, 3) := by decide +kernel
theorem d_LogDisk_state_96 : decode prog_1_method_11_code 96 = .ok (.getfield 86, 3) := by decide +kernel
theorem d_LogDisk_state_99 : decode prog_1_method_11_code 99 = .ok (.ireturn, 1) := by decide +kernel
theorem d_LogDisk_state_100 : decode prog_1_method_11_code 100 = .ok (.aload_n 0, 1) := by decide +kernel
theorem d_LogDisk_state_101 : decode prog_1_method_11_code 101 = .ok (.invokevirtual 251, 3) := by decide +kernel
theorem d_LogDisk_state_104 : decode prog_1_method_11_code 104 = .ok (.ireturn, 1) := by decide +kernel
theorem d_LogDisk_state_105 : decode prog_1_method_11_code 105 = .ok (.aload_n 0, 1) := by decide +kernel
theorem d_LogDisk_state_106 : decode prog_1_method_11_code 106 = .ok (.getfield 150, 3) := by decide +kernel
theorem d_LogDisk_state_109 : decode prog_1_method_11_code 109 = .ok (.ireturn, 1) := by decide +kernel
theorem d_LogDisk_state_110 : decode prog_1_method_11_code 110 = .ok (.aload_n 0, 1) := by decide +kernel
theorem d_LogDisk_state_111 : decode prog_1_method_11_code 111 = .ok (.getfield 144, 3) := by decide +kernel
theorem d_LogDisk_state_114 : decode prog_1_method_11_code 114 = .ok (.ifCond .eq 7, 3) := by decide +kernel
theorem d_LogDisk_state_117 : decode prog_1_method_11_code 117 = .ok (.iconst 1, 1) := by decide +kernel
theorem d_LogDisk_state_118 : decode prog_1_method_11_code 118 = .ok (.goto 4, 3) := by decide +kernel
theorem d_LogDisk_state_121 : decode prog_1_method_11_code 121 = .ok (.iconst 0, 1) := by decide +kernel
theorem d_LogDisk_state_122 : decode prog_1_method_11_code 122 = .ok (.ireturn, 1) := by decide +kernel
theorem d_LogDisk_state_123 : decode prog_1_method_11_code 123 = .ok (.aload_n 0, 1) := by decide +kernel
theorem d_LogDisk_state_124 : decode prog_1_method_11_code 124 = .ok (.getfield 50, 3) := by decide +kernel
theorem d_LogDisk_state_127 : decode prog_1_method_11_code 127 = .ok (.getfield 194, 3) := by decide +kernel
theorem d_LogDisk_state_130 : decode prog_1_method_11_code 130 = .ok (.ireturn, 1) := by decide +kernel
theorem d_LogDisk_state_131 : decode prog_1_method_11_code 131 = .ok (.aload_n 0, 1) := by decide +kernel
theorem d_LogDisk_state_132 : decode prog_1_method_11_code 132 = .ok (.getfield 78, 3) := by decide +kernel
theorem d_LogDisk_state_135 : decode prog_1_method_11_code 135 = .ok (.invokevirtual 254, 3) := by decide +kernel
theorem d_LogDisk_state_138 : decode prog_1_method_11_code 138 = .ok (.ireturn, 1) := by decide +kernel
theorem d_LogDisk_state_139 : decode prog_1_method_11_code 139 = .ok (.aload_n 0, 1) := by decide +kernel
theorem d_LogDisk_state_140 : decode prog_1_method_11_code 140 = .ok (.getfield 22, 3) := by decide +kernel
theorem d_LogDisk_state_143 : decode prog_1_method_11_code 143 = .ok (.getfield 96, 3) := by decide +kernel
theorem d_LogDisk_state_146 : decode prog_1_method_11_code 146 = .ok (.ireturn, 1) := by decide +kernel
theorem d_LogDisk_state_147 : decode prog_1_method_11_code 147 = .ok (.new 189, 3) := by decide +kernel
theorem d_LogDisk_state_150 : decode prog_1_method_11_code 150 = .ok (.dup, 1) := by decide +kernel
theorem d_LogDisk_state_151 : decode prog_1_method_11_code 151 = .ok (.ldc_w 257, 3) := by decide +kernel
theorem d_LogDisk_state_154 : decode prog_1_method_11_code 154 = .ok (.invokespecial 193, 3) := by decide +kernel
theorem d_LogDisk_state_157 : decode prog_1_method_11_code 157 = .ok (.athrow, 1) := by decide +kernel
theorem d_LogDisk_entry_0 : decode prog_1_method_12_code 0 = .ok (.iload_n 1, 1) := by decide +kernel
theorem d_LogDisk_entry_1 : decode prog_1_method_12_code 1 = .ok (.aload_n 0, 1) := by decide +kernel
theorem d_LogDisk_entry_2 : decode prog_1_method_12_code 2 = .ok (.getfield 43, 3) := by decide +kernel
theorem d_LogDisk_entry_5 : decode prog_1_method_12_code 5 = .ok (.getfield 161, 3) := by decide +kernel
theorem d_LogDisk_entry_8 : decode prog_1_method_12_code 8 = .ok (.if_icmp .ne 15, 3) := by decide +kernel
theorem d_LogDisk_entry_11 : decode prog_1_method_12_code 11 = .ok (.iload_n 2, 1) := by decide +kernel
theorem d_LogDisk_entry_12 : decode prog_1_method_12_code 12 = .ok (.ifCond .ne 11, 3) := by decide +kernel
theorem d_LogDisk_entry_15 : decode prog_1_method_12_code 15 = .ok (.aload_n 0, 1) := by decide +kernel
theorem d_LogDisk_entry_16 : decode prog_1_method_12_code 16 = .ok (.getfield 43, 3) := by decide +kernel
theorem d_LogDisk_entry_19 : decode prog_1_method_12_code 19 = .ok (.getfield 250, 3) := by decide +kernel
theorem d_LogDisk_entry_22 : decode prog_1_method_12_code 22 = .ok (.ireturn, 1) := by decide +kernel
theorem d_LogDisk_entry_23 : decode prog_1_method_12_code 23 = .ok (.aload_n 0, 1) := by decide +kernel
theorem d_LogDisk_entry_24 : decode prog_1_method_12_code 24 = .ok (.iload_n 1, 1) := by decide +kernel
theorem d_LogDisk_entry_25 : decode prog_1_method_12_code 25 = .ok (.invokevirtual 186, 3) := by decide +kernel
theorem d_LogDisk_entry_28 : decode prog_1_method_12_code 28 = .ok (.ifCond .ne 14, 3) := by decide +kernel
theorem d_LogDisk_entry_31 : decode prog_1_method_12_code 31 = .ok (.new 189, 3) := by decide +kernel
theorem d_LogDisk_entry_34 : decode prog_1_method_12_code 34 = .ok (.dup, 1) := by decide +kernel
theorem d_LogDisk_entry_35 : decode prog_1_method_12_code 35 = .ok (.ldc_w 259, 3) := by decide +kernel
theorem d_LogDisk_entry_38 : decode prog_1_method_12_code 38 = .ok (.invokespecial 193, 3) := by decide +kernel
theorem d_LogDisk_entry_41 : decode prog_1_method_12_code 41 = .ok (.athrow, 1) := by decide +kernel
theorem d_LogDisk_entry_42 : decode prog_1_method_12_code 42 = .ok (.aload_n 0, 1) := by decide +kernel
theorem d_LogDisk_entry_43 : decode prog_1_method_12_code 43 = .ok (.getfield 57, 3) := by decide +kernel
theorem d_LogDisk_entry_46 : decode prog_1_method_12_code 46 = .ok (.iload_n 1, 1) := by decide +kernel
theorem d_LogDisk_entry_47 : decode prog_1_method_12_code 47 = .ok (.invokevirtual 206, 3) := by decide +kernel
theorem d_LogDisk_entry_50 : decode prog_1_method_12_code 50 = .ok (.istore_n 3, 1) := by decide +kernel
theorem d_LogDisk_entry_51 : decode prog_1_method_12_code 51 = .ok (.iload_n 2, 1) := by decide +kernel
theorem d_LogDisk_entry_52 : decode prog_1_method_12_code 52 = .ok (.tableswitch 86 0 4 #[36, 46, 56, 66, 76], 36) := by decide +kernel
theorem d_LogDisk_entry_88 : decode prog_1_method_12_code 88 = .ok (.aload_n 0, 1) := by decide +kernel
theorem d_LogDisk_entry_89 : decode prog_1_method_12_code 89 = .ok (.getfield 57, 3) := by decide +kernel
theorem d_LogDisk_entry_92 : decode prog_1_method_12_code 92 = .ok (.getfield 261, 3) := by decide +kernel
theorem d_LogDisk_entry_95 : decode prog_1_method_12_code 95 = .ok (.iload_n 3, 1) := by decide +kernel
theorem d_LogDisk_entry_96 : decode prog_1_method_12_code 96 = .ok (.iaload, 1) := by decide +kernel
theorem d_LogDisk_entry_97 : decode prog_1_method_12_code 97 = .ok (.ireturn, 1) := by decide +kernel
theorem d_LogDisk_entry_98 : decode prog_1_method_12_code 98 = .ok (.aload_n 0, 1) := by decide +kernel
theorem d_LogDisk_entry_99 : decode prog_1_method_12_code 99 = .ok (.getfield 57, 3) := by decide +kernel
theorem d_LogDisk_entry_102 : decode prog_1_method_12_code 102 = .ok (.getfield 263, 3) := by decide +kernel
theorem d_LogDisk_entry_105 : decode prog_1_method_12_code 105 = .ok (.iload_n 3, 1) := by decide +kernel
theorem d_LogDisk_entry_106 : decode prog_1_method_12_code 106 = .ok (.iaload, 1) := by decide +kernel
theorem d_LogDisk_entry_107 : decode prog_1_method_12_code 107 = .ok (.ireturn, 1) := by decide +kernel
theorem d_LogDisk_entry_108 : decode prog_1_method_12_code 108 = .ok (.aload_n 0, 1) := by decide +kernel
theorem d_LogDisk_entry_109 : decode prog_1_method_12_code 109 = .ok (.getfield 57, 3) := by decide +kernel
theorem d_LogDisk_entry_112 : decode prog_1_method_12_code 112 = .ok (.getfield 266, 3) := by decide +kernel
theorem d_LogDisk_entry_115 : decode prog_1_method_12_code 115 = .ok (.iload_n 3, 1) := by decide +kernel
theorem d_LogDisk_entry_116 : decode prog_1_method_12_code 116 = .ok (.iaload, 1) := by decide +kernel
theorem d_LogDisk_entry_117 : decode prog_1_method_12_code 117 = .ok (.ireturn, 1) := by decide +kernel
theorem d_LogDisk_entry_118 : decode prog_1_method_12_code 118 = .ok (.aload_n 0, 1) := by decide +kernel
theorem d_LogDisk_entry_119 : decode prog_1_method_12_code 119 = .ok (.getfield 57, 3) := by decide +kernel
theorem d_LogDisk_entry_122 : decode prog_1_method_12_code 122 = .ok (.getfield 209, 3) := by decide +kernel
theorem d_LogDisk_entry_125 : decode prog_1_method_12_code 125 = .ok (.iload_n 3, 1) := by decide +kernel
theorem d_LogDisk_entry_126 : decode prog_1_method_12_code 126 = .ok (.iaload, 1) := by decide +kernel
theorem d_LogDisk_entry_127 : decode prog_1_method_12_code 127 = .ok (.ireturn, 1) := by decide +kernel
theorem d_LogDisk_entry_128 : decode prog_1_method_12_code 128 = .ok (.aload_n 0, 1) := by decide +kernel
theorem d_LogDisk_entry_129 : decode prog_1_method_12_code 129 = .ok (.getfield 57, 3) := by decide +kernel
theorem d_LogDisk_entry_132 : decode prog_1_method_12_code 132 = .ok (.getfield 210, 3) := by decide +kernel
theorem d_LogDisk_entry_135 : decode prog_1_method_12_code 135 = .ok (.iload_n 3, 1) := by decide +kernel
theorem d_LogDisk_entry_136 : decode prog_1_method_12_code 136 = .ok (.iaload, 1) := by decide +kernel
theorem d_LogDisk_entry_137 : decode prog_1_method_12_code 137 = .ok (.ireturn, 1) := by decide +kernel
theorem d_LogDisk_entry_138 : decode prog_1_method_12_code 138 = .ok (.new 189, 3) := by decide +kernel
theorem d_LogDisk_entry_141 : decode prog_1_method_12_code 141 = .ok (.dup, 1) := by decide +kernel
theorem d_LogDisk_entry_142 : decode prog_1_method_12_code 142 = .ok (.ldc_w 257, 3) := by decide +kernel
theorem d_LogDisk_entry_145 : decode prog_1_method_12_code 145 = .ok (.invokespecial 193, 3) := by decide +kernel
theorem d_LogDisk_entry_148 : decode prog_1_method_12_code 148 = .ok (.athrow, 1) := by decide +kernel
theorem d_LogDisk_contentAt_0 : decode prog_1_method_13_code 0 = .ok (.aload_n 0, 1) := by decide +kernel
theorem d_LogDisk_contentAt_1 : decode prog_1_method_13_code 1 = .ok (.iload_n 1, 1) := by decide +kernel
theorem d_LogDisk_contentAt_2 : decode prog_1_method_13_code 2 = .ok (.invokevirtual 186, 3) := by decide +kernel
theorem d_LogDisk_contentAt_5 : decode prog_1_method_13_code 5 = .ok (.ifCond .ne 14, 3) := by decide +kernel
theorem d_LogDisk_contentAt_8 : decode prog_1_method_13_code 8 = .ok (.new 189, 3) := by decide +kernel
theorem d_LogDisk_contentAt_11 : decode prog_1_method_13_code 11 = .ok (.dup, 1) := by decide +kernel
theorem d_LogDisk_contentAt_12 : decode prog_1_method_13_code 12 = .ok (.ldc_w 268, 3) := by decide +kernel
theorem d_LogDisk_contentAt_15 : decode prog_1_method_13_code 15 = .ok (.invokespecial 193, 3) := by decide +kernel
theorem d_LogDisk_contentAt_18 : decode prog_1_method_13_code 18 = .ok (.athrow, 1) := by decide +kernel
theorem d_LogDisk_contentAt_19 : decode prog_1_method_13_code 19 = .ok (.aload_n 0, 1) := by decide +kernel
theorem d_LogDisk_contentAt_20 : decode prog_1_method_13_code 20 = .ok (.getfield 57, 3) := by decide +kernel
theorem d_LogDisk_contentAt_23 : decode prog_1_method_13_code 23 = .ok (.iload_n 1, 1) := by decide +kernel
theorem d_LogDisk_contentAt_24 : decode prog_1_method_13_code 24 = .ok (.invokevirtual 206, 3) := by decide +kernel
theorem d_LogDisk_contentAt_27 : decode prog_1_method_13_code 27 = .ok (.istore_n 3, 1) := by decide +kernel
theorem d_LogDisk_contentAt_28 : decode prog_1_method_13_code 28 = .ok (.iload_n 2, 1) := by decide +kernel
theorem d_LogDisk_contentAt_29 : decode prog_1_method_13_code 29 = .ok (.ifCond .lt 16, 3) := by decide +kernel
theorem d_LogDisk_contentAt_32 : decode prog_1_method_13_code 32 = .ok (.iload_n 2, 1) := by decide +kernel
theorem d_LogDisk_contentAt_33 : decode prog_1_method_13_code 33 = .ok (.aload_n 0, 1) := by decide +kernel
theorem d_LogDisk_contentAt_34 : decode prog_1_method_13_code 34 = .ok (.getfield 57, 3) := by decide +kernel
theorem d_LogDisk_contentAt_37 : decode prog_1_method_13_code 37 = .ok (.getfield 266, 3) := by decide +kernel
theorem d_LogDisk_contentAt_40 : decode prog_1_method_13_code 40 = .ok (.iload_n 3, 1) := by decide +kernel
theorem d_LogDisk_contentAt_41 : decode prog_1_method_13_code 41 = .ok (.iaload, 1) := by decide +kernel
theorem d_LogDisk_contentAt_42 : decode prog_1_method_13_code 42 = .ok (.if_icmp .lt 14, 3) := by decide +kernel
theorem d_LogDisk_contentAt_45 : decode prog_1_method_13_code 45 = .ok (.new 270, 3) := by decide +kernel
theorem d_LogDisk_contentAt_48 : decode prog_1_method_13_code 48 = .ok (.dup, 1) := by decide +kernel
theorem d_LogDisk_contentAt_49 : decode prog_1_method_13_code 49 = .ok (.ldc_w 272, 3) := by decide +kernel
theorem d_LogDisk_contentAt_52 : decode prog_1_method_13_code 52 = .ok (.invokespecial 274, 3) := by decide +kernel
theorem d_LogDisk_contentAt_55 : decode prog_1_method_13_code 55 = .ok (.athrow, 1) := by decide +kernel
theorem d_LogDisk_contentAt_56 : decode prog_1_method_13_code 56 = .ok (.aload_n 0, 1) := by decide +kernel
theorem d_LogDisk_contentAt_57 : decode prog_1_method_13_code 57 = .ok (.getfield 11, 3) := by decide +kernel
theorem d_LogDisk_contentAt_60 : decode prog_1_method_13_code 60 = .ok (.aload_n 0, 1) := by decide +kernel
theorem d_LogDisk_contentAt_61 : decode prog_1_method_13_code 61 = .ok (.getfield 57, 3) := by decide +kernel
theorem d_LogDisk_contentAt_64 : decode prog_1_method_13_code 64 = .ok (.getfield 209, 3) := by decide +kernel
theorem d_LogDisk_contentAt_67 : decode prog_1_method_13_code 67 = .ok (.iload_n 3, 1) := by decide +kernel
theorem d_LogDisk_contentAt_68 : decode prog_1_method_13_code 68 = .ok (.iaload, 1) := by decide +kernel
theorem d_LogDisk_contentAt_69 : decode prog_1_method_13_code 69 = .ok (.aaload, 1) := by decide +kernel
theorem d_LogDisk_contentAt_70 : decode prog_1_method_13_code 70 = .ok (.aload_n 0, 1) := by decide +kernel
theorem d_LogDisk_contentAt_71 : decode prog_1_method_13_code 71 = .ok (.getfield 57, 3) := by decide +kernel
theorem d_LogDisk_contentAt_74 : decode prog_1_method_13_code 74 = .ok (.getfield 210, 3) := by decide +kernel
theorem d_LogDisk_contentAt_77 : decode prog_1_method_13_code 77 = .ok (.iload_n 3, 1) := by decide +kernel
theorem d_LogDisk_contentAt_78 : decode prog_1_method_13_code 78 = .ok (.iaload, 1) := by decide +kernel
theorem d_LogDisk_contentAt_79 : decode prog_1_method_13_code 79 = .ok (.bipush 25, 2) := by decide +kernel
theorem d_LogDisk_contentAt_81 : decode prog_1_method_13_code 81 = .ok (.iadd, 1) := by decide +kernel
theorem d_LogDisk_contentAt_82 : decode prog_1_method_13_code 82 = .ok (.iload_n 2, 1) := by decide +kernel
theorem d_LogDisk_contentAt_83 : decode prog_1_method_13_code 83 = .ok (.iadd, 1) := by decide +kernel
theorem d_LogDisk_contentAt_84 : decode prog_1_method_13_code 84 = .ok (.invokevirtual 275, 3) := by decide +kernel
theorem d_LogDisk_contentAt_87 : decode prog_1_method_13_code 87 = .ok (.ireturn, 1) := by decide +kernel
theorem d_LogDisk_snapshotAt_0 : decode prog_1_method_14_code 0 = .ok (.iload_n 1, 1) := by decide +kernel
theorem d_LogDisk_snapshotAt_1 : decode prog_1_method_14_code 1 = .ok (.ifCond .lt 11, 3) := by decide +kernel
theorem d_LogDisk_snapshotAt_4 : decode prog_1_method_14_code 4 = .ok (.iload_n 1, 1) := by decide +kernel
theorem d_LogDisk_snapshotAt_5 : decode prog_1_method_14_code 5 = .ok (.aload_n 0, 1) := by decide +kernel
theorem d_LogDisk_snapshotAt_6 : decode prog_1_method_14_code 6 = .ok (.invokevirtual 251, 3) := by decide +kernel
theorem d_LogDisk_snapshotAt_9 : decode prog_1_method_14_code 9 = .ok (.if_icmp .lt 14, 3) := by decide +kernel
theorem d_LogDisk_snapshotAt_12 : decode prog_1_method_14_code 12 = .ok (.new 189, 3) := by decide +kernel
theorem d_LogDisk_snapshotAt_15 : decode prog_1_method_14_code 15 = .ok (.dup, 1) := by decide +kernel
theorem d_LogDisk_snapshotAt_16 : decode prog_1_method_14_code 16 = .ok (.ldc_w 272, 3) := by decide +kernel
theorem d_LogDisk_snapshotAt_19 : decode prog_1_method_14_code 19 = .ok (.invokespecial 193, 3) := by decide +kernel
theorem d_LogDisk_snapshotAt_22 : decode prog_1_method_14_code 22 = .ok (.athrow, 1) := by decide +kernel
theorem d_LogDisk_snapshotAt_23 : decode prog_1_method_14_code 23 = .ok (.aload_n 0, 1) := by decide +kernel
theorem d_LogDisk_snapshotAt_24 : decode prog_1_method_14_code 24 = .ok (.getfield 11, 3) := by decide +kernel
theorem d_LogDisk_snapshotAt_27 : decode prog_1_method_14_code 27 = .ok (.aload_n 0, 1) := by decide +kernel
theorem d_LogDisk_snapshotAt_28 : decode prog_1_method_14_code 28 = .ok (.getfield 43, 3) := by decide +kernel
theorem d_LogDisk_snapshotAt_31 : decode prog_1_method_14_code 31 = .ok (.getfield 278, 3) := by decide +kernel
theorem d_LogDisk_snapshotAt_34 : decode prog_1_method_14_code 34 = .ok (.aaload, 1) := by decide +kernel
theorem d_LogDisk_snapshotAt_35 : decode prog_1_method_14_code 35 = .ok (.bipush 20, 2) := by decide +kernel
theorem d_LogDisk_snapshotAt_37 : decode prog_1_method_14_code 37 = .ok (.iload_n 1, 1) := by decide +kernel
theorem d_LogDisk_snapshotAt_38 : decode prog_1_method_14_code 38 = .ok (.iadd, 1) := by decide +kernel
theorem d_LogDisk_snapshotAt_39 : decode prog_1_method_14_code 39 = .ok (.invokevirtual 275, 3) := by decide +kernel
theorem d_LogDisk_snapshotAt_42 : decode prog_1_method_14_code 42 = .ok (.ireturn, 1) := by decide +kernel
theorem d_LogDisk_segment_0 : decode prog_1_method_15_code 0 = .ok (.iload_n 1, 1) := by decide +kernel
theorem d_LogDisk_segment_1 : decode prog_1_method_15_code 1 = .ok (.ifCond .lt 14, 3) := by decide +kernel
theorem d_LogDisk_segment_4 : decode prog_1_method_15_code 4 = .ok (.iload_n 1, 1) := by decide +kernel
theorem d_LogDisk_segment_5 : decode prog_1_method_15_code 5 = .ok (.aload_n 0, 1) := by decide +kernel
theorem d_LogDisk_segment_6 : decode prog_1_method_15_code 6 = .ok (.getfield 50, 3) := by decide +kernel
theorem d_LogDisk_segment_9 : decode prog_1_method_15_code 9 = .ok (.getfield 194, 3) := by decide +kernel
theorem d_LogDisk_segment_12 : decode prog_1_method_15_code 12 = .ok (.if_icmp .lt 14, 3) := by decide +kernel
theorem d_LogDisk_segment_15 : decode prog_1_method_15_code 15 = .ok (.new 189, 3) := by decide +kernel
theorem d_LogDisk_segment_18 : decode prog_1_method_15_code 18 = .ok (.dup, 1) := by decide +kernel
theorem d_LogDisk_segment_19 : decode prog_1_method_15_code 19 = .ok (.ldc_w 280, 3) := by decide +kernel
theorem d_LogDisk_segment_22 : decode prog_1_method_15_code 22 = .ok (.invokespecial 193, 3) := by decide +kernel
theorem d_LogDisk_segment_25 : decode prog_1_method_15_code 25 = .ok (.athrow, 1) := by decide +kernel
theorem d_LogDisk_segment_26 : decode prog_1_method_15_code 26 = .ok (.iload_n 2, 1) := by decide +kernel
theorem d_LogDisk_segment_27 : decode prog_1_method_15_code 27 = .ok (.lookupswitch 45 #[(0, 25), (1, 35)], 25) := by decide +kernel
theorem d_LogDisk_segment_52 : decode prog_1_method_15_code 52 = .ok (.aload_n 0, 1) := by decide +kernel
theorem d_LogDisk_segment_53 : decode prog_1_method_15_code 53 = .ok (.getfield 50, 3) := by decide +kernel
theorem d_LogDisk_segment_56 : decode prog_1_method_15_code 56 = .ok (.getfield 200, 3) := by decide +kernel
theorem d_LogDisk_segment_59 : decode prog_1_method_15_code 59 = .ok (.iload_n 1, 1) := by decide +kernel
theorem d_LogDisk_segment_60 : decode prog_1_method_15_code 60 = .ok (.iaload, 1) := by decide +kernel
theorem d_LogDisk_segment_61 : decode prog_1_method_15_code 61 = .ok (.ireturn, 1) := by decide +kernel
theorem d_LogDisk_segment_62 : decode prog_1_method_15_code 62 = .ok (.aload_n 0, 1) := by decide +kernel
theorem d_LogDisk_segment_63 : decode prog_1_method_15_code 63 = .ok (.getfield 50, 3) := by decide +kernel
theorem d_LogDisk_segment_66 : decode prog_1_method_15_code 66 = .ok (.getfield 197, 3) := by decide +kernel
theorem d_LogDisk_segment_69 : decode prog_1_method_15_code 69 = .ok (.iload_n 1, 1) := by decide +kernel
theorem d_LogDisk_segment_70 : decode prog_1_method_15_code 70 = .ok (.iaload, 1) := by decide +kernel
theorem d_LogDisk_segment_71 : decode prog_1_method_15_code 71 = .ok (.ireturn, 1) := by decide +kernel
theorem d_LogDisk_segment_72 : decode prog_1_method_15_code 72 = .ok (.new 189, 3) := by decide +kernel
theorem d_LogDisk_segment_75 : decode prog_1_method_15_code 75 = .ok (.dup, 1) := by decide +kernel
theorem d_LogDisk_segment_76 : decode prog_1_method_15_code 76 = .ok (.ldc_w 257, 3) := by decide +kernel
theorem d_LogDisk_segment_79 : decode prog_1_method_15_code 79 = .ok (.invokespecial 193, 3) := by decide +kernel
theorem d_LogDisk_segment_82 : decode prog_1_method_15_code 82 = .ok (.athrow, 1) := by decide +kernel
theorem d_LogDisk_file_0 : decode prog_1_method_16_code 0 = .ok (.iload_n 1, 1) := by decide +kernel
theorem d_LogDisk_file_1 : decode prog_1_method_16_code 1 = .ok (.invokestatic 227, 3) := by decide +kernel
theorem d_LogDisk_file_4 : decode prog_1_method_16_code 4 = .ok (.ifCond .ne 13, 3) := by decide +kernel
theorem d_LogDisk_file_7 : decode prog_1_method_16_code 7 = .ok (.new 189, 3) := by decide +kernel
theorem d_LogDisk_file_10 : decode prog_1_method_16_code 10 = .ok (.dup, 1) := by decide +kernel
theorem d_LogDisk_file_11 : decode prog_1_method_16_code 11 = .ok (.ldc 230, 2) := by decide +kernel
theorem d_LogDisk_file_13 : decode prog_1_method_16_code 13 = .ok (.invokespecial 193, 3) := by decide +kernel
theorem d_LogDisk_file_16 : decode prog_1_method_16_code 16 = .ok (.athrow, 1) := by decide +kernel
theorem d_LogDisk_file_17 : decode prog_1_method_16_code 17 = .ok (.aload_n 0, 1) := by decide +kernel
theorem d_LogDisk_file_18 : decode prog_1_method_16_code 18 = .ok (.getfield 11, 3) := by decide +kernel
theorem d_LogDisk_file_21 : decode prog_1_method_16_code 21 = .ok (.iload_n 1, 1) := by decide +kernel
theorem d_LogDisk_file_22 : decode prog_1_method_16_code 22 = .ok (.aaload, 1) := by decide +kernel
theorem d_LogDisk_file_23 : decode prog_1_method_16_code 23 = .ok (.astore_n 3, 1) := by decide +kernel
theorem d_LogDisk_file_24 : decode prog_1_method_16_code 24 = .ok (.iload_n 2, 1) := by decide +kernel
theorem d_LogDisk_file_25 : decode prog_1_method_16_code 25 = .ok (.tableswitch 88 0 4 #[35, 43, 51, 56, 72], 35) := by decide +kernel
theorem d_LogDisk_file_60 : decode prog_1_method_16_code 60 = .ok (.aload_n 3, 1) := by decide +kernel
theorem d_LogDisk_file_61 : decode prog_1_method_16_code 61 = .ok (.getfield 282, 3) := by decide +kernel
theorem d_LogDisk_file_64 : decode prog_1_method_16_code 64 = .ok (.getfield 286, 3) := by decide +kernel
theorem d_LogDisk_file_67 : decode prog_1_method_16_code 67 = .ok (.ireturn, 1) := by decide +kernel
theorem d_LogDisk_file_68 : decode prog_1_method_16_code 68 = .ok (.aload_n 3, 1) := by decide +kernel
theorem d_LogDisk_file_69 : decode prog_1_method_16_code 69 = .ok (.getfield 289, 3) := by decide +kernel
theorem d_LogDisk_file_72 : decode prog_1_method_16_code 72 = .ok (.getfield 286, 3) := by decide +kernel
theorem d_LogDisk_file_75 : decode prog_1_method_16_code 75 = .ok (.ireturn, 1) := by decide +kernel
theorem d_LogDisk_file_76 : decode prog_1_method_16_code 76 = .ok (.aload_n 3, 1) := by decide +kernel
theorem d_LogDisk_file_77 : decode prog_1_method_16_code 77 = .ok (.getfield 292, 3) := by decide +kernel
theorem d_LogDisk_file_80 : decode prog_1_method_16_code 80 = .ok (.ireturn, 1) := by decide +kernel
theorem d_LogDisk_file_81 : decode prog_1_method_16_code 81 = .ok (.aload_n 3, 1) := by decide +kernel
theorem d_LogDisk_file_82 : decode prog_1_method_16_code 82 = .ok (.getfield 282, 3) := by decide +kernel
theorem d_LogDisk_file_85 : decode prog_1_method_16_code 85 = .ok (.getfield 295, 3) := by decide +kernel
theorem d_LogDisk_file_88 : decode prog_1_method_16_code 88 = .ok (.ifCond .eq 7, 3) := by decide +kernel
theorem d_LogDisk_file_91 : decode prog_1_method_16_code 91 = .ok (.iconst 1, 1) := by decide +kernel
theorem d_LogDisk_file_92 : decode prog_1_method_16_code 92 = .ok (.goto 4, 3) := by decide +kernel
theorem d_LogDisk_file_95 : decode prog_1_method_16_code 95 = .ok (.iconst 0, 1) := by decide +kernel
theorem d_LogDisk_file_96 : decode prog_1_method_16_code 96 = .ok (.ireturn, 1) := by decide +kernel
theorem d_LogDisk_file_97 : decode prog_1_method_16_code 97 = .ok (.aload_n 3, 1) := by decide +kernel
theorem d_LogDisk_file_98 : decode prog_1_method_16_code 98 = .ok (.getfield 289, 3) := by decide +kernel
theorem d_LogDisk_file_101 : decode prog_1_method_16_code 101 = .ok (.getfield 295, 3) := by decide +kernel
theorem d_LogDisk_file_104 : decode prog_1_method_16_code 104 = .ok (.ifCond .eq 7, 3) := by decide +kernel
theorem d_LogDisk_file_107 : decode prog_1_method_16_code 107 = .ok (.iconst 1, 1) := by decide +kernel
theorem d_LogDisk_file_108 : decode prog_1_method_16_code 108 = .ok (.goto 4, 3) := by decide +kernel
theorem d_LogDisk_file_111 : decode prog_1_method_16_code 111 = .ok (.iconst 0, 1) := by decide +kernel
theorem d_LogDisk_file_112 : decode prog_1_method_16_code 112 = .ok (.ireturn, 1) := by decide +kernel
theorem d_LogDisk_file_113 : decode prog_1_method_16_code 113 = .ok (.new 189, 3) := by decide +kernel
theorem d_LogDisk_file_116 : decode prog_1_method_16_code 116 = .ok (.dup, 1) := by decide +kernel
theorem d_LogDisk_file_117 : decode prog_1_method_16_code 117 = .ok (.ldc_w 257, 3) := by decide +kernel
theorem d_LogDisk_file_120 : decode prog_1_method_16_code 120 = .ok (.invokespecial 193, 3) := by decide +kernel
theorem d_LogDisk_file_123 : decode prog_1_method_16_code 123 = .ok (.athrow, 1) := by decide +kernel
theorem d_LogDisk_byteAt_0 : decode prog_1_method_17_code 0 = .ok (.iload_n 1, 1) := by decide +kernel
theorem d_LogDisk_byteAt_1 : decode prog_1_method_17_code 1 = .ok (.invokestatic 227, 3) := by decide +kernel
theorem d_LogDisk_byteAt_4 : decode prog_1_method_17_code 4 = .ok (.ifCond .eq 23, 3) := by decide +kernel
theorem d_LogDisk_byteAt_7 : decode prog_1_method_17_code 7 = .ok (.iload_n 2, 1) := by decide +kernel
theorem d_LogDisk_byteAt_8 : decode prog_1_method_17_code 8 = .ok (.ifCond .lt 19, 3) := by decide +kernel
theorem d_LogDisk_byteAt_11 : decode prog_1_method_17_code 11 = .ok (.iload_n 2, 1) := by decide +kernel
theorem d_LogDisk_byteAt_12 : decode prog_1_method_17_code 12 = .ok (.aload_n 0, 1) := by decide +kernel
theorem d_LogDisk_byteAt_13 : decode prog_1_method_17_code 13 = .ok (.getfield 11, 3) := by decide +kernel
theorem d_LogDisk_byteAt_16 : decode prog_1_method_17_code 16 = .ok (.iload_n 1, 1) := by decide +kernel
theorem d_LogDisk_byteAt_17 : decode prog_1_method_17_code 17 = .ok (.aaload, 1) := by decide +kernel
theorem d_LogDisk_byteAt_18 : decode prog_1_method_17_code 18 = .ok (.getfield 282, 3) := by decide +kernel
theorem d_LogDisk_byteAt_21 : decode prog_1_method_17_code 21 = .ok (.getfield 286, 3) := by decide +kernel
theorem d_LogDisk_byteAt_24 : decode prog_1_method_17_code 24 = .ok (.if_icmp .lt 14, 3) := by decide +kernel
theorem d_LogDisk_byteAt_27 : decode prog_1_method_17_code 27 = .ok (.new 189, 3) := by decide +kernel
theorem d_LogDisk_byteAt_30 : decode prog_1_method_17_code 30 = .ok (.dup, 1) := by decide +kernel
theorem d_LogDisk_byteAt_31 : decode prog_1_method_17_code 31 = .ok (.ldc_w 272, 3) := by decide +kernel
theorem d_LogDisk_byteAt_34 : decode prog_1_method_17_code 34 = .ok (.invokespecial 193, 3) := by decide +kernel
theorem d_LogDisk_byteAt_37 : decode prog_1_method_17_code 37 = .ok (.athrow, 1) := by decide +kernel
theorem d_LogDisk_byteAt_38 : decode prog_1_method_17_code 38 = .ok (.aload_n 0, 1) := by decide +kernel
theorem d_LogDisk_byteAt_39 : decode prog_1_method_17_code 39 = .ok (.getfield 11, 3) := by decide +kernel
theorem d_LogDisk_byteAt_42 : decode prog_1_method_17_code 42 = .ok (.iload_n 1, 1) := by decide +kernel
theorem d_LogDisk_byteAt_43 : decode prog_1_method_17_code 43 = .ok (.aaload, 1) := by decide +kernel
theorem d_LogDisk_byteAt_44 : decode prog_1_method_17_code 44 = .ok (.iload_n 2, 1) := by decide +kernel
theorem d_LogDisk_byteAt_45 : decode prog_1_method_17_code 45 = .ok (.invokevirtual 275, 3) := by decide +kernel
theorem d_LogDisk_byteAt_48 : decode prog_1_method_17_code 48 = .ok (.ireturn, 1) := by decide +kernel
theorem d_LogDisk_isFile_0 : decode prog_1_method_18_code 0 = .ok (.iload_n 0, 1) := by decide +kernel
theorem d_LogDisk_isFile_1 : decode prog_1_method_18_code 1 = .ok (.ifCond .lt 13, 3) := by decide +kernel
theorem d_LogDisk_isFile_4 : decode prog_1_method_18_code 4 = .ok (.iload_n 0, 1) := by decide +kernel
theorem d_LogDisk_isFile_5 : decode prog_1_method_18_code 5 = .ok (.bipush 16, 2) := by decide +kernel
theorem d_LogDisk_isFile_7 : decode prog_1_method_18_code 7 = .ok (.if_icmp .ge 7, 3) := by decide +kernel
theorem d_LogDisk_isFile_10 : decode prog_1_method_18_code 10 = .ok (.iconst 1, 1) := by decide +kernel
theorem d_LogDisk_isFile_11 : decode prog_1_method_18_code 11 = .ok (.goto 4, 3) := by decide +kernel
theorem d_LogDisk_isFile_14 : decode prog_1_method_18_code 14 = .ok (.iconst 0, 1) := by decide +kernel
theorem d_LogDisk_isFile_15 : decode prog_1_method_18_code 15 = .ok (.ireturn, 1) := by decide +kernel
theorem d_LogDisk_isInLog_0 : decode prog_1_method_19_code 0 = .ok (.iload_n 1, 1) := by decide +kernel
theorem d_LogDisk_isInLog_1 : decode prog_1_method_19_code 1 = .ok (.aload_n 0, 1) := by decide +kernel
theorem d_LogDisk_isInLog_2 : decode prog_1_method_19_code 2 = .ok (.getfield 43, 3) := by decide +kernel
theorem d_LogDisk_isInLog_5 : decode prog_1_method_19_code 5 = .ok (.getfield 161, 3) := by decide +kernel
theorem d_LogDisk_isInLog_8 : decode prog_1_method_19_code 8 = .ok (.if_icmp .le 15, 3) := by decide +kernel
theorem d_LogDisk_isInLog_11 : decode prog_1_method_19_code 11 = .ok (.iload_n 1, 1) := by decide +kernel
theorem d_LogDisk_isInLog_12 : decode prog_1_method_19_code 12 = .ok (.aload_n 0, 1) := by decide +kernel
theorem d_LogDisk_isInLog_13 : decode prog_1_method_19_code 13 = .ok (.getfield 150, 3) := by decide +kernel
theorem d_LogDisk_isInLog_16 : decode prog_1_method_19_code 16 = .ok (.if_icmp .gt 7, 3) := by decide +kernel
theorem d_LogDisk_isInLog_19 : decode prog_1_method_19_code 19 = .ok (.iconst 1, 1) := by decide +kernel
theorem d_LogDisk_isInLog_20 : decode prog_1_method_19_code 20 = .ok (.goto 4, 3) := by decide +kernel
theorem d_LogDisk_isInLog_23 : decode prog_1_method_19_code 23 = .ok (.iconst 0, 1) := by decide +kernel
theorem d_LogDisk_isInLog_24 : decode prog_1_method_19_code 24 = .ok (.ireturn, 1) := by decide +kernel
theorem d_LogDisk_termAt_0 : decode prog_1_method_20_code 0 = .ok (.aload_n 0, 1) := by decide +kernel
theorem d_LogDisk_termAt_1 : decode prog_1_method_20_code 1 = .ok (.iload_n 1, 1) := by decide +kernel
theorem d_LogDisk_termAt_2 : decode prog_1_method_20_code 2 = .ok (.invokevirtual 186, 3) := by decide +kernel
theorem d_LogDisk_termAt_5 : decode prog_1_method_20_code 5 = .ok (.ifCond .eq 22, 3) := by decide +kernel
theorem d_LogDisk_termAt_8 : decode prog_1_method_20_code 8 = .ok (.aload_n 0, 1) := by decide +kernel
theorem d_LogDisk_termAt_9 : decode prog_1_method_20_code 9 = .ok (.getfield 57, 3) := by decide +kernel
theorem d_LogDisk_termAt_12 : decode prog_1_method_20_code 12 = .ok (.getfield 261, 3) := by decide +kernel
end
section
theorem d_LogDisk_termAt_15 : decode prog_1_method_20_code 15 = .ok (.aload_n 0, 1) := by decide +kernel
theorem d_LogDisk_termAt_16 : decode prog_1_method_20_code 16 = .ok (.getfield 57, 3) := by decide +kernel
theorem d_LogDisk_termAt_19 : decode prog_1_method_20_code 19 = .ok (.iload_n 1, 1) := by decide +kernel
theorem d_LogDisk_termAt_20 : decode prog_1_method_20_code 20 = .ok (.invokevirtual 206, 3) := by decide +kernel
theorem d_LogDisk_termAt_23 : decode prog_1_method_20_code 23 = .ok (.iaload, 1) := by decide +kernel
theorem d_LogDisk_termAt_24 : decode prog_1_method_20_code 24 = .ok (.goto 10, 3) := by decide +kernel
theorem d_LogDisk_termAt_27 : decode prog_1_method_20_code 27 = .ok (.aload_n 0, 1) := by decide +kernel
theorem d_LogDisk_termAt_28 : decode prog_1_method_20_code 28 = .ok (.getfield 43, 3) := by decide +kernel
theorem d_LogDisk_termAt_31 : decode prog_1_method_20_code 31 = .ok (.getfield 250, 3) := by decide +kernel
theorem d_LogDisk_termAt_34 : decode prog_1_method_20_code 34 = .ok (.ireturn, 1) := by decide +kernel
theorem d_LogDisk_snapshotBytes_0 : decode prog_1_method_21_code 0 = .ok (.aload_n 0, 1) := by decide +kernel
theorem d_LogDisk_snapshotBytes_1 : decode prog_1_method_21_code 1 = .ok (.getfield 43, 3) := by decide +kernel
theorem d_LogDisk_snapshotBytes_4 : decode prog_1_method_21_code 4 = .ok (.getfield 278, 3) := by decide +kernel
theorem d_LogDisk_snapshotBytes_7 : decode prog_1_method_21_code 7 = .ok (.iconst (-1), 1) := by decide +kernel
theorem d_LogDisk_snapshotBytes_8 : decode prog_1_method_21_code 8 = .ok (.if_icmp .ne 7, 3) := by decide +kernel
theorem d_LogDisk_snapshotBytes_11 : decode prog_1_method_21_code 11 = .ok (.iconst 0, 1) := by decide +kernel
theorem d_LogDisk_snapshotBytes_12 : decode prog_1_method_21_code 12 = .ok (.goto 24, 3) := by decide +kernel
theorem d_LogDisk_snapshotBytes_15 : decode prog_1_method_21_code 15 = .ok (.aload_n 0, 1) := by decide +kernel
theorem d_LogDisk_snapshotBytes_16 : decode prog_1_method_21_code 16 = .ok (.getfield 11, 3) := by decide +kernel
theorem d_LogDisk_snapshotBytes_19 : decode prog_1_method_21_code 19 = .ok (.aload_n 0, 1) := by decide +kernel
theorem d_LogDisk_snapshotBytes_20 : decode prog_1_method_21_code 20 = .ok (.getfield 43, 3) := by decide +kernel
theorem d_LogDisk_snapshotBytes_23 : decode prog_1_method_21_code 23 = .ok (.getfield 278, 3) := by decide +kernel
theorem d_LogDisk_snapshotBytes_26 : decode prog_1_method_21_code 26 = .ok (.aaload, 1) := by decide +kernel
theorem d_LogDisk_snapshotBytes_27 : decode prog_1_method_21_code 27 = .ok (.getfield 282, 3) := by decide +kernel
theorem d_LogDisk_snapshotBytes_30 : decode prog_1_method_21_code 30 = .ok (.getfield 286, 3) := by decide +kernel
theorem d_LogDisk_snapshotBytes_33 : decode prog_1_method_21_code 33 = .ok (.bipush 20, 2) := by decide +kernel
theorem d_LogDisk_snapshotBytes_35 : decode prog_1_method_21_code 35 = .ok (.isub, 1) := by decide +kernel
theorem d_LogDisk_snapshotBytes_36 : decode prog_1_method_21_code 36 = .ok (.ireturn, 1) := by decide +kernel
theorem d_LogDisk_needsNewSegment_0 : decode prog_1_method_22_code 0 = .ok (.aload_n 0, 1) := by decide +kernel
theorem d_LogDisk_needsNewSegment_1 : decode prog_1_method_22_code 1 = .ok (.getfield 50, 3) := by decide +kernel
theorem d_LogDisk_needsNewSegment_4 : decode prog_1_method_22_code 4 = .ok (.getfield 194, 3) := by decide +kernel
theorem d_LogDisk_needsNewSegment_7 : decode prog_1_method_22_code 7 = .ok (.ifCond .eq 27, 3) := by decide +kernel
theorem d_LogDisk_needsNewSegment_10 : decode prog_1_method_22_code 10 = .ok (.aload_n 0, 1) := by decide +kernel
theorem d_LogDisk_needsNewSegment_11 : decode prog_1_method_22_code 11 = .ok (.getfield 11, 3) := by decide +kernel
theorem d_LogDisk_needsNewSegment_14 : decode prog_1_method_22_code 14 = .ok (.aload_n 0, 1) := by decide +kernel
theorem d_LogDisk_needsNewSegment_15 : decode prog_1_method_22_code 15 = .ok (.getfield 50, 3) := by decide +kernel
theorem d_LogDisk_needsNewSegment_18 : decode prog_1_method_22_code 18 = .ok (.invokevirtual 173, 3) := by decide +kernel
theorem d_LogDisk_needsNewSegment_21 : decode prog_1_method_22_code 21 = .ok (.aaload, 1) := by decide +kernel
theorem d_LogDisk_needsNewSegment_22 : decode prog_1_method_22_code 22 = .ok (.getfield 282, 3) := by decide +kernel
theorem d_LogDisk_needsNewSegment_25 : decode prog_1_method_22_code 25 = .ok (.getfield 286, 3) := by decide +kernel
theorem d_LogDisk_needsNewSegment_28 : decode prog_1_method_22_code 28 = .ok (.sipush 8000, 3) := by decide +kernel
theorem d_LogDisk_needsNewSegment_31 : decode prog_1_method_22_code 31 = .ok (.if_icmp .le 7, 3) := by decide +kernel
theorem d_LogDisk_needsNewSegment_34 : decode prog_1_method_22_code 34 = .ok (.iconst 1, 1) := by decide +kernel
theorem d_LogDisk_needsNewSegment_35 : decode prog_1_method_22_code 35 = .ok (.goto 4, 3) := by decide +kernel
theorem d_LogDisk_needsNewSegment_38 : decode prog_1_method_22_code 38 = .ok (.iconst 0, 1) := by decide +kernel
theorem d_LogDisk_needsNewSegment_39 : decode prog_1_method_22_code 39 = .ok (.ireturn, 1) := by decide +kernel
theorem d_LogDisk_lowestFreeFile_0 : decode prog_1_method_23_code 0 = .ok (.iconst 4, 1) := by decide +kernel
theorem d_LogDisk_lowestFreeFile_1 : decode prog_1_method_23_code 1 = .ok (.istore_n 1, 1) := by decide +kernel
theorem d_LogDisk_lowestFreeFile_2 : decode prog_1_method_23_code 2 = .ok (.iload_n 1, 1) := by decide +kernel
theorem d_LogDisk_lowestFreeFile_3 : decode prog_1_method_23_code 3 = .ok (.bipush 16, 2) := by decide +kernel
theorem d_LogDisk_lowestFreeFile_5 : decode prog_1_method_23_code 5 = .ok (.if_icmp .ge 26, 3) := by decide +kernel
theorem d_LogDisk_lowestFreeFile_8 : decode prog_1_method_23_code 8 = .ok (.aload_n 0, 1) := by decide +kernel
theorem d_LogDisk_lowestFreeFile_9 : decode prog_1_method_23_code 9 = .ok (.getfield 11, 3) := by decide +kernel
theorem d_LogDisk_lowestFreeFile_12 : decode prog_1_method_23_code 12 = .ok (.iload_n 1, 1) := by decide +kernel
theorem d_LogDisk_lowestFreeFile_13 : decode prog_1_method_23_code 13 = .ok (.aaload, 1) := by decide +kernel
theorem d_LogDisk_lowestFreeFile_14 : decode prog_1_method_23_code 14 = .ok (.getfield 282, 3) := by decide +kernel
theorem d_LogDisk_lowestFreeFile_17 : decode prog_1_method_23_code 17 = .ok (.getfield 295, 3) := by decide +kernel
theorem d_LogDisk_lowestFreeFile_20 : decode prog_1_method_23_code 20 = .ok (.ifCond .ne 5, 3) := by decide +kernel
theorem d_LogDisk_lowestFreeFile_23 : decode prog_1_method_23_code 23 = .ok (.iload_n 1, 1) := by decide +kernel
theorem d_LogDisk_lowestFreeFile_24 : decode prog_1_method_23_code 24 = .ok (.ireturn, 1) := by decide +kernel
theorem d_LogDisk_lowestFreeFile_25 : decode prog_1_method_23_code 25 = .ok (.iinc 1 1, 3) := by decide +kernel
theorem d_LogDisk_lowestFreeFile_28 : decode prog_1_method_23_code 28 = .ok (.goto (-26), 3) := by decide +kernel
theorem d_LogDisk_lowestFreeFile_31 : decode prog_1_method_23_code 31 = .ok (.iconst (-1), 1) := by decide +kernel
theorem d_LogDisk_lowestFreeFile_32 : decode prog_1_method_23_code 32 = .ok (.ireturn, 1) := by decide +kernel
theorem d_LogDisk_writeVote_0 : decode prog_1_method_24_code 0 = .ok (.aload_n 0, 1) := by decide +kernel
theorem d_LogDisk_writeVote_1 : decode prog_1_method_24_code 1 = .ok (.getfield 29, 3) := by decide +kernel
theorem d_LogDisk_writeVote_4 : decode prog_1_method_24_code 4 = .ok (.invokevirtual 298, 3) := by decide +kernel
theorem d_LogDisk_writeVote_7 : decode prog_1_method_24_code 7 = .ok (.aload_n 0, 1) := by decide +kernel
theorem d_LogDisk_writeVote_8 : decode prog_1_method_24_code 8 = .ok (.getfield 29, 3) := by decide +kernel
theorem d_LogDisk_writeVote_11 : decode prog_1_method_24_code 11 = .ok (.aload_n 0, 1) := by decide +kernel
theorem d_LogDisk_writeVote_12 : decode prog_1_method_24_code 12 = .ok (.getfield 36, 3) := by decide +kernel
theorem d_LogDisk_writeVote_15 : decode prog_1_method_24_code 15 = .ok (.getfield 129, 3) := by decide +kernel
theorem d_LogDisk_writeVote_18 : decode prog_1_method_24_code 18 = .ok (.bipush 8, 2) := by decide +kernel
theorem d_LogDisk_writeVote_20 : decode prog_1_method_24_code 20 = .ok (.invokevirtual 301, 3) := by decide +kernel
theorem d_LogDisk_writeVote_23 : decode prog_1_method_24_code 23 = .ok (.aload_n 0, 1) := by decide +kernel
theorem d_LogDisk_writeVote_24 : decode prog_1_method_24_code 24 = .ok (.getfield 29, 3) := by decide +kernel
theorem d_LogDisk_writeVote_27 : decode prog_1_method_24_code 27 = .ok (.aload_n 0, 1) := by decide +kernel
theorem d_LogDisk_writeVote_28 : decode prog_1_method_24_code 28 = .ok (.getfield 36, 3) := by decide +kernel
theorem d_LogDisk_writeVote_31 : decode prog_1_method_24_code 31 = .ok (.getfield 108, 3) := by decide +kernel
theorem d_LogDisk_writeVote_34 : decode prog_1_method_24_code 34 = .ok (.i2l, 1) := by decide +kernel
theorem d_LogDisk_writeVote_35 : decode prog_1_method_24_code 35 = .ok (.bipush 8, 2) := by decide +kernel
theorem d_LogDisk_writeVote_37 : decode prog_1_method_24_code 37 = .ok (.invokevirtual 301, 3) := by decide +kernel
theorem d_LogDisk_writeVote_40 : decode prog_1_method_24_code 40 = .ok (.aload_n 0, 1) := by decide +kernel
theorem d_LogDisk_writeVote_41 : decode prog_1_method_24_code 41 = .ok (.getfield 29, 3) := by decide +kernel
theorem d_LogDisk_writeVote_44 : decode prog_1_method_24_code 44 = .ok (.aload_n 0, 1) := by decide +kernel
theorem d_LogDisk_writeVote_45 : decode prog_1_method_24_code 45 = .ok (.getfield 36, 3) := by decide +kernel
theorem d_LogDisk_writeVote_48 : decode prog_1_method_24_code 48 = .ok (.getfield 247, 3) := by decide +kernel
theorem d_LogDisk_writeVote_51 : decode prog_1_method_24_code 51 = .ok (.i2l, 1) := by decide +kernel
theorem d_LogDisk_writeVote_52 : decode prog_1_method_24_code 52 = .ok (.bipush 8, 2) := by decide +kernel
theorem d_LogDisk_writeVote_54 : decode prog_1_method_24_code 54 = .ok (.invokevirtual 301, 3) := by decide +kernel
theorem d_LogDisk_writeVote_57 : decode prog_1_method_24_code 57 = .ok (.aload_n 0, 1) := by decide +kernel
theorem d_LogDisk_writeVote_58 : decode prog_1_method_24_code 58 = .ok (.getfield 29, 3) := by decide +kernel
theorem d_LogDisk_writeVote_61 : decode prog_1_method_24_code 61 = .ok (.invokevirtual 305, 3) := by decide +kernel
theorem d_LogDisk_writeVote_64 : decode prog_1_method_24_code 64 = .ok (.aload_n 0, 1) := by decide +kernel
theorem d_LogDisk_writeVote_65 : decode prog_1_method_24_code 65 = .ok (.getfield 11, 3) := by decide +kernel
theorem d_LogDisk_writeVote_68 : decode prog_1_method_24_code 68 = .ok (.aload_n 0, 1) := by decide +kernel
theorem d_LogDisk_writeVote_69 : decode prog_1_method_24_code 69 = .ok (.getfield 36, 3) := by decide +kernel
theorem d_LogDisk_writeVote_72 : decode prog_1_method_24_code 72 = .ok (.getfield 308, 3) := by decide +kernel
theorem d_LogDisk_writeVote_75 : decode prog_1_method_24_code 75 = .ok (.aaload, 1) := by decide +kernel
theorem d_LogDisk_writeVote_76 : decode prog_1_method_24_code 76 = .ok (.iconst 0, 1) := by decide +kernel
theorem d_LogDisk_writeVote_77 : decode prog_1_method_24_code 77 = .ok (.invokevirtual 213, 3) := by decide +kernel
theorem d_LogDisk_writeVote_80 : decode prog_1_method_24_code 80 = .ok (.aload_n 0, 1) := by decide +kernel
theorem d_LogDisk_writeVote_81 : decode prog_1_method_24_code 81 = .ok (.getfield 11, 3) := by decide +kernel
theorem d_LogDisk_writeVote_84 : decode prog_1_method_24_code 84 = .ok (.aload_n 0, 1) := by decide +kernel
theorem d_LogDisk_writeVote_85 : decode prog_1_method_24_code 85 = .ok (.getfield 36, 3) := by decide +kernel
theorem d_LogDisk_writeVote_88 : decode prog_1_method_24_code 88 = .ok (.getfield 308, 3) := by decide +kernel
theorem d_LogDisk_writeVote_91 : decode prog_1_method_24_code 91 = .ok (.aaload, 1) := by decide +kernel
theorem d_LogDisk_writeVote_92 : decode prog_1_method_24_code 92 = .ok (.aload_n 0, 1) := by decide +kernel
theorem d_LogDisk_writeVote_93 : decode prog_1_method_24_code 93 = .ok (.getfield 29, 3) := by decide +kernel
theorem d_LogDisk_writeVote_96 : decode prog_1_method_24_code 96 = .ok (.getfield 309, 3) := by decide +kernel
theorem d_LogDisk_writeVote_99 : decode prog_1_method_24_code 99 = .ok (.aload_n 0, 1) := by decide +kernel
theorem d_LogDisk_writeVote_100 : decode prog_1_method_24_code 100 = .ok (.getfield 29, 3) := by decide +kernel
theorem d_LogDisk_writeVote_103 : decode prog_1_method_24_code 103 = .ok (.getfield 310, 3) := by decide +kernel
theorem d_LogDisk_writeVote_106 : decode prog_1_method_24_code 106 = .ok (.invokevirtual 311, 3) := by decide +kernel
theorem d_LogDisk_writeVote_109 : decode prog_1_method_24_code 109 = .ok (.return_, 1) := by decide +kernel
theorem d_LogDisk_openSegment_0 : decode prog_1_method_25_code 0 = .ok (.aload_n 0, 1) := by decide +kernel
theorem d_LogDisk_openSegment_1 : decode prog_1_method_25_code 1 = .ok (.getfield 29, 3) := by decide +kernel
theorem d_LogDisk_openSegment_4 : decode prog_1_method_25_code 4 = .ok (.invokevirtual 298, 3) := by decide +kernel
theorem d_LogDisk_openSegment_7 : decode prog_1_method_25_code 7 = .ok (.aload_n 0, 1) := by decide +kernel
theorem d_LogDisk_openSegment_8 : decode prog_1_method_25_code 8 = .ok (.getfield 29, 3) := by decide +kernel
theorem d_LogDisk_openSegment_11 : decode prog_1_method_25_code 11 = .ok (.aload_n 0, 1) := by decide +kernel
theorem d_LogDisk_openSegment_12 : decode prog_1_method_25_code 12 = .ok (.getfield 150, 3) := by decide +kernel
theorem d_LogDisk_openSegment_15 : decode prog_1_method_25_code 15 = .ok (.iconst 1, 1) := by decide +kernel
theorem d_LogDisk_openSegment_16 : decode prog_1_method_25_code 16 = .ok (.iadd, 1) := by decide +kernel
theorem d_LogDisk_openSegment_17 : decode prog_1_method_25_code 17 = .ok (.i2l, 1) := by decide +kernel
theorem d_LogDisk_openSegment_18 : decode prog_1_method_25_code 18 = .ok (.bipush 8, 2) := by decide +kernel
theorem d_LogDisk_openSegment_20 : decode prog_1_method_25_code 20 = .ok (.invokevirtual 301, 3) := by decide +kernel
theorem d_LogDisk_openSegment_23 : decode prog_1_method_25_code 23 = .ok (.aload_n 0, 1) := by decide +kernel
theorem d_LogDisk_openSegment_24 : decode prog_1_method_25_code 24 = .ok (.getfield 29, 3) := by decide +kernel
theorem d_LogDisk_openSegment_27 : decode prog_1_method_25_code 27 = .ok (.aload_n 0, 1) := by decide +kernel
theorem d_LogDisk_openSegment_28 : decode prog_1_method_25_code 28 = .ok (.aload_n 0, 1) := by decide +kernel
theorem d_LogDisk_openSegment_29 : decode prog_1_method_25_code 29 = .ok (.getfield 150, 3) := by decide +kernel
theorem d_LogDisk_openSegment_32 : decode prog_1_method_25_code 32 = .ok (.invokevirtual 153, 3) := by decide +kernel
theorem d_LogDisk_openSegment_35 : decode prog_1_method_25_code 35 = .ok (.i2l, 1) := by decide +kernel
theorem d_LogDisk_openSegment_36 : decode prog_1_method_25_code 36 = .ok (.bipush 8, 2) := by decide +kernel
theorem d_LogDisk_openSegment_38 : decode prog_1_method_25_code 38 = .ok (.invokevirtual 301, 3) := by decide +kernel
theorem d_LogDisk_openSegment_41 : decode prog_1_method_25_code 41 = .ok (.aload_n 0, 1) := by decide +kernel
theorem d_LogDisk_openSegment_42 : decode prog_1_method_25_code 42 = .ok (.getfield 29, 3) := by decide +kernel
theorem d_LogDisk_openSegment_45 : decode prog_1_method_25_code 45 = .ok (.invokevirtual 305, 3) := by decide +kernel
theorem d_LogDisk_openSegment_48 : decode prog_1_method_25_code 48 = .ok (.aload_n 0, 1) := by decide +kernel
theorem d_LogDisk_openSegment_49 : decode prog_1_method_25_code 49 = .ok (.getfield 11, 3) := by decide +kernel
theorem d_LogDisk_openSegment_52 : decode prog_1_method_25_code 52 = .ok (.iload_n 1, 1) := by decide +kernel
theorem d_LogDisk_openSegment_53 : decode prog_1_method_25_code 53 = .ok (.aaload, 1) := by decide +kernel
theorem d_LogDisk_openSegment_54 : decode prog_1_method_25_code 54 = .ok (.aload_n 0, 1) := by decide +kernel
theorem d_LogDisk_openSegment_55 : decode prog_1_method_25_code 55 = .ok (.getfield 29, 3) := by decide +kernel
theorem d_LogDisk_openSegment_58 : decode prog_1_method_25_code 58 = .ok (.getfield 309, 3) := by decide +kernel
theorem d_LogDisk_openSegment_61 : decode prog_1_method_25_code 61 = .ok (.aload_n 0, 1) := by decide +kernel
theorem d_LogDisk_openSegment_62 : decode prog_1_method_25_code 62 = .ok (.getfield 29, 3) := by decide +kernel
theorem d_LogDisk_openSegment_65 : decode prog_1_method_25_code 65 = .ok (.getfield 310, 3) := by decide +kernel
theorem d_LogDisk_openSegment_68 : decode prog_1_method_25_code 68 = .ok (.invokevirtual 311, 3) := by decide +kernel
theorem d_LogDisk_openSegment_71 : decode prog_1_method_25_code 71 = .ok (.aload_n 0, 1) := by decide +kernel
theorem d_LogDisk_openSegment_72 : decode prog_1_method_25_code 72 = .ok (.getfield 50, 3) := by decide +kernel
theorem d_LogDisk_openSegment_75 : decode prog_1_method_25_code 75 = .ok (.iload_n 1, 1) := by decide +kernel
theorem d_LogDisk_openSegment_76 : decode prog_1_method_25_code 76 = .ok (.aload_n 0, 1) := by decide +kernel
theorem d_LogDisk_openSegment_77 : decode prog_1_method_25_code 77 = .ok (.getfield 150, 3) := by decide +kernel
theorem d_LogDisk_openSegment_80 : decode prog_1_method_25_code 80 = .ok (.iconst 1, 1) := by decide +kernel
theorem d_LogDisk_openSegment_81 : decode prog_1_method_25_code 81 = .ok (.iadd, 1) := by decide +kernel
theorem d_LogDisk_openSegment_82 : decode prog_1_method_25_code 82 = .ok (.invokevirtual 315, 3) := by decide +kernel
theorem d_LogDisk_openSegment_85 : decode prog_1_method_25_code 85 = .ok (.return_, 1) := by decide +kernel
theorem d_LogDisk_writeEntry_0 : decode prog_1_method_26_code 0 = .ok (.aload_n 0, 1) := by decide +kernel
theorem d_LogDisk_writeEntry_1 : decode prog_1_method_26_code 1 = .ok (.dup, 1) := by decide +kernel
theorem d_LogDisk_writeEntry_2 : decode prog_1_method_26_code 2 = .ok (.getfield 150, 3) := by decide +kernel
theorem d_LogDisk_writeEntry_5 : decode prog_1_method_26_code 5 = .ok (.iconst 1, 1) := by decide +kernel
theorem d_LogDisk_writeEntry_6 : decode prog_1_method_26_code 6 = .ok (.iadd, 1) := by decide +kernel
theorem d_LogDisk_writeEntry_7 : decode prog_1_method_26_code 7 = .ok (.putfield 150, 3) := by decide +kernel
theorem d_LogDisk_writeEntry_10 : decode prog_1_method_26_code 10 = .ok (.aload_n 0, 1) := by decide +kernel
theorem d_LogDisk_writeEntry_11 : decode prog_1_method_26_code 11 = .ok (.getfield 57, 3) := by decide +kernel
theorem d_LogDisk_writeEntry_14 : decode prog_1_method_26_code 14 = .ok (.aload_n 0, 1) := by decide +kernel
theorem d_LogDisk_writeEntry_15 : decode prog_1_method_26_code 15 = .ok (.getfield 150, 3) := by decide +kernel
theorem d_LogDisk_writeEntry_18 : decode prog_1_method_26_code 18 = .ok (.iload_n 1, 1) := by decide +kernel
theorem d_LogDisk_writeEntry_19 : decode prog_1_method_26_code 19 = .ok (.aload_n 0, 1) := by decide +kernel
theorem d_LogDisk_writeEntry_20 : decode prog_1_method_26_code 20 = .ok (.getfield 11, 3) := by decide +kernel
theorem d_LogDisk_writeEntry_23 : decode prog_1_method_26_code 23 = .ok (.iload_n 1, 1) := by decide +kernel
theorem d_LogDisk_writeEntry_24 : decode prog_1_method_26_code 24 = .ok (.aaload, 1) := by decide +kernel
theorem d_LogDisk_writeEntry_25 : decode prog_1_method_26_code 25 = .ok (.getfield 282, 3) := by decide +kernel
theorem d_LogDisk_writeEntry_28 : decode prog_1_method_26_code 28 = .ok (.getfield 286, 3) := by decide +kernel
theorem d_LogDisk_writeEntry_31 : decode prog_1_method_26_code 31 = .ok (.iload_n 2, 1) := by decide +kernel
theorem d_LogDisk_writeEntry_32 : decode prog_1_method_26_code 32 = .ok (.iload_n 3, 1) := by decide +kernel
theorem d_LogDisk_writeEntry_33 : decode prog_1_method_26_code 33 = .ok (.iload 4, 2) := by decide +kernel
theorem d_LogDisk_writeEntry_35 : decode prog_1_method_26_code 35 = .ok (.invokevirtual 318, 3) := by decide +kernel
theorem d_LogDisk_writeEntry_38 : decode prog_1_method_26_code 38 = .ok (.aload_n 0, 1) := by decide +kernel
theorem d_LogDisk_writeEntry_39 : decode prog_1_method_26_code 39 = .ok (.getfield 29, 3) := by decide +kernel
theorem d_LogDisk_writeEntry_42 : decode prog_1_method_26_code 42 = .ok (.invokevirtual 298, 3) := by decide +kernel
theorem d_LogDisk_writeEntry_45 : decode prog_1_method_26_code 45 = .ok (.aload_n 0, 1) := by decide +kernel
theorem d_LogDisk_writeEntry_46 : decode prog_1_method_26_code 46 = .ok (.getfield 29, 3) := by decide +kernel
theorem d_LogDisk_writeEntry_49 : decode prog_1_method_26_code 49 = .ok (.aload_n 0, 1) := by decide +kernel
theorem d_LogDisk_writeEntry_50 : decode prog_1_method_26_code 50 = .ok (.getfield 150, 3) := by decide +kernel
theorem d_LogDisk_writeEntry_53 : decode prog_1_method_26_code 53 = .ok (.i2l, 1) := by decide +kernel
theorem d_LogDisk_writeEntry_54 : decode prog_1_method_26_code 54 = .ok (.bipush 8, 2) := by decide +kernel
theorem d_LogDisk_writeEntry_56 : decode prog_1_method_26_code 56 = .ok (.invokevirtual 301, 3) := by decide +kernel
theorem d_LogDisk_writeEntry_59 : decode prog_1_method_26_code 59 = .ok (.aload_n 0, 1) := by decide +kernel
theorem d_LogDisk_writeEntry_60 : decode prog_1_method_26_code 60 = .ok (.getfield 29, 3) := by decide +kernel
theorem d_LogDisk_writeEntry_63 : decode prog_1_method_26_code 63 = .ok (.iload_n 2, 1) := by decide +kernel
theorem d_LogDisk_writeEntry_64 : decode prog_1_method_26_code 64 = .ok (.i2l, 1) := by decide +kernel
theorem d_LogDisk_writeEntry_65 : decode prog_1_method_26_code 65 = .ok (.bipush 8, 2) := by decide +kernel
theorem d_LogDisk_writeEntry_67 : decode prog_1_method_26_code 67 = .ok (.invokevirtual 301, 3) := by decide +kernel
theorem d_LogDisk_writeEntry_70 : decode prog_1_method_26_code 70 = .ok (.aload_n 0, 1) := by decide +kernel
theorem d_LogDisk_writeEntry_71 : decode prog_1_method_26_code 71 = .ok (.getfield 29, 3) := by decide +kernel
theorem d_LogDisk_writeEntry_74 : decode prog_1_method_26_code 74 = .ok (.iload_n 3, 1) := by decide +kernel
theorem d_LogDisk_writeEntry_75 : decode prog_1_method_26_code 75 = .ok (.i2l, 1) := by decide +kernel
theorem d_LogDisk_writeEntry_76 : decode prog_1_method_26_code 76 = .ok (.iconst 1, 1) := by decide +kernel
theorem d_LogDisk_writeEntry_77 : decode prog_1_method_26_code 77 = .ok (.invokevirtual 301, 3) := by decide +kernel
theorem d_LogDisk_writeEntry_80 : decode prog_1_method_26_code 80 = .ok (.aload_n 0, 1) := by decide +kernel
theorem d_LogDisk_writeEntry_81 : decode prog_1_method_26_code 81 = .ok (.getfield 29, 3) := by decide +kernel
theorem d_LogDisk_writeEntry_84 : decode prog_1_method_26_code 84 = .ok (.aload_n 0, 1) := by decide +kernel
theorem d_LogDisk_writeEntry_85 : decode prog_1_method_26_code 85 = .ok (.getfield 22, 3) := by decide +kernel
theorem d_LogDisk_writeEntry_88 : decode prog_1_method_26_code 88 = .ok (.getfield 104, 3) := by decide +kernel
theorem d_LogDisk_writeEntry_91 : decode prog_1_method_26_code 91 = .ok (.iload 4, 2) := by decide +kernel
theorem d_LogDisk_writeEntry_93 : decode prog_1_method_26_code 93 = .ok (.invokevirtual 321, 3) := by decide +kernel
theorem d_LogDisk_writeEntry_96 : decode prog_1_method_26_code 96 = .ok (.aload_n 0, 1) := by decide +kernel
theorem d_LogDisk_writeEntry_97 : decode prog_1_method_26_code 97 = .ok (.getfield 29, 3) := by decide +kernel
theorem d_LogDisk_writeEntry_100 : decode prog_1_method_26_code 100 = .ok (.invokevirtual 305, 3) := by decide +kernel
theorem d_LogDisk_writeEntry_103 : decode prog_1_method_26_code 103 = .ok (.aload_n 0, 1) := by decide +kernel
theorem d_LogDisk_writeEntry_104 : decode prog_1_method_26_code 104 = .ok (.getfield 11, 3) := by decide +kernel
theorem d_LogDisk_writeEntry_107 : decode prog_1_method_26_code 107 = .ok (.iload_n 1, 1) := by decide +kernel
theorem d_LogDisk_writeEntry_108 : decode prog_1_method_26_code 108 = .ok (.aaload, 1) := by decide +kernel
theorem d_LogDisk_writeEntry_109 : decode prog_1_method_26_code 109 = .ok (.aload_n 0, 1) := by decide +kernel
theorem d_LogDisk_writeEntry_110 : decode prog_1_method_26_code 110 = .ok (.getfield 29, 3) := by decide +kernel
theorem d_LogDisk_writeEntry_113 : decode prog_1_method_26_code 113 = .ok (.getfield 309, 3) := by decide +kernel
theorem d_LogDisk_writeEntry_116 : decode prog_1_method_26_code 116 = .ok (.aload_n 0, 1) := by decide +kernel
theorem d_LogDisk_writeEntry_117 : decode prog_1_method_26_code 117 = .ok (.getfield 29, 3) := by decide +kernel
theorem d_LogDisk_writeEntry_120 : decode prog_1_method_26_code 120 = .ok (.getfield 310, 3) := by decide +kernel
theorem d_LogDisk_writeEntry_123 : decode prog_1_method_26_code 123 = .ok (.invokevirtual 311, 3) := by decide +kernel
theorem d_LogDisk_writeEntry_126 : decode prog_1_method_26_code 126 = .ok (.return_, 1) := by decide +kernel
theorem d_LogDisk_moveBase_0 : decode prog_1_method_27_code 0 = .ok (.aload_n 0, 1) := by decide +kernel
theorem d_LogDisk_moveBase_1 : decode prog_1_method_27_code 1 = .ok (.getfield 43, 3) := by decide +kernel
theorem d_LogDisk_moveBase_4 : decode prog_1_method_27_code 4 = .ok (.aload_n 0, 1) := by decide +kernel
theorem d_LogDisk_moveBase_5 : decode prog_1_method_27_code 5 = .ok (.getfield 43, 3) := by decide +kernel
theorem d_LogDisk_moveBase_8 : decode prog_1_method_27_code 8 = .ok (.invokevirtual 216, 3) := by decide +kernel
theorem d_LogDisk_moveBase_11 : decode prog_1_method_27_code 11 = .ok (.iload_n 1, 1) := by decide +kernel
theorem d_LogDisk_moveBase_12 : decode prog_1_method_27_code 12 = .ok (.iload_n 2, 1) := by decide +kernel
theorem d_LogDisk_moveBase_13 : decode prog_1_method_27_code 13 = .ok (.iload_n 3, 1) := by decide +kernel
theorem d_LogDisk_moveBase_14 : decode prog_1_method_27_code 14 = .ok (.invokevirtual 324, 3) := by decide +kernel
theorem d_LogDisk_moveBase_17 : decode prog_1_method_27_code 17 = .ok (.aload_n 0, 1) := by decide +kernel
theorem d_LogDisk_moveBase_18 : decode prog_1_method_27_code 18 = .ok (.getfield 29, 3) := by decide +kernel
theorem d_LogDisk_moveBase_21 : decode prog_1_method_27_code 21 = .ok (.invokevirtual 298, 3) := by decide +kernel
theorem d_LogDisk_moveBase_24 : decode prog_1_method_27_code 24 = .ok (.aload_n 0, 1) := by decide +kernel
theorem d_LogDisk_moveBase_25 : decode prog_1_method_27_code 25 = .ok (.getfield 29, 3) := by decide +kernel
theorem d_LogDisk_moveBase_28 : decode prog_1_method_27_code 28 = .ok (.iload_n 1, 1) := by decide +kernel
theorem d_LogDisk_moveBase_29 : decode prog_1_method_27_code 29 = .ok (.i2l, 1) := by decide +kernel
theorem d_LogDisk_moveBase_30 : decode prog_1_method_27_code 30 = .ok (.iconst 4, 1) := by decide +kernel
theorem d_LogDisk_moveBase_31 : decode prog_1_method_27_code 31 = .ok (.invokevirtual 301, 3) := by decide +kernel
theorem d_LogDisk_moveBase_34 : decode prog_1_method_27_code 34 = .ok (.aload_n 0, 1) := by decide +kernel
theorem d_LogDisk_moveBase_35 : decode prog_1_method_27_code 35 = .ok (.getfield 29, 3) := by decide +kernel
theorem d_LogDisk_moveBase_38 : decode prog_1_method_27_code 38 = .ok (.iload_n 2, 1) := by decide +kernel
theorem d_LogDisk_moveBase_39 : decode prog_1_method_27_code 39 = .ok (.i2l, 1) := by decide +kernel
theorem d_LogDisk_moveBase_40 : decode prog_1_method_27_code 40 = .ok (.iconst 4, 1) := by decide +kernel
theorem d_LogDisk_moveBase_41 : decode prog_1_method_27_code 41 = .ok (.invokevirtual 301, 3) := by decide +kernel
theorem d_LogDisk_moveBase_44 : decode prog_1_method_27_code 44 = .ok (.aload_n 0, 1) := by decide +kernel
theorem d_LogDisk_moveBase_45 : decode prog_1_method_27_code 45 = .ok (.getfield 29, 3) := by decide +kernel
theorem d_LogDisk_moveBase_48 : decode prog_1_method_27_code 48 = .ok (.iload_n 3, 1) := by decide +kernel
theorem d_LogDisk_moveBase_49 : decode prog_1_method_27_code 49 = .ok (.i2l, 1) := by decide +kernel
theorem d_LogDisk_moveBase_50 : decode prog_1_method_27_code 50 = .ok (.iconst 4, 1) := by decide +kernel
theorem d_LogDisk_moveBase_51 : decode prog_1_method_27_code 51 = .ok (.invokevirtual 301, 3) := by decide +kernel
theorem d_LogDisk_moveBase_54 : decode prog_1_method_27_code 54 = .ok (.aload_n 0, 1) := by decide +kernel
theorem d_LogDisk_moveBase_55 : decode prog_1_method_27_code 55 = .ok (.getfield 29, 3) := by decide +kernel
theorem d_LogDisk_moveBase_58 : decode prog_1_method_27_code 58 = .ok (.invokevirtual 305, 3) := by decide +kernel
theorem d_LogDisk_moveBase_61 : decode prog_1_method_27_code 61 = .ok (.aload_n 0, 1) := by decide +kernel
theorem d_LogDisk_moveBase_62 : decode prog_1_method_27_code 62 = .ok (.getfield 11, 3) := by decide +kernel
theorem d_LogDisk_moveBase_65 : decode prog_1_method_27_code 65 = .ok (.aload_n 0, 1) := by decide +kernel
theorem d_LogDisk_moveBase_66 : decode prog_1_method_27_code 66 = .ok (.getfield 43, 3) := by decide +kernel
theorem d_LogDisk_moveBase_69 : decode prog_1_method_27_code 69 = .ok (.getfield 278, 3) := by decide +kernel
theorem d_LogDisk_moveBase_72 : decode prog_1_method_27_code 72 = .ok (.aaload, 1) := by decide +kernel
theorem d_LogDisk_moveBase_73 : decode prog_1_method_27_code 73 = .ok (.astore 5, 2) := by decide +kernel
theorem d_LogDisk_moveBase_75 : decode prog_1_method_27_code 75 = .ok (.aload 5, 2) := by decide +kernel
theorem d_LogDisk_moveBase_77 : decode prog_1_method_27_code 77 = .ok (.iconst 0, 1) := by decide +kernel
theorem d_LogDisk_moveBase_78 : decode prog_1_method_27_code 78 = .ok (.invokevirtual 213, 3) := by decide +kernel
theorem d_LogDisk_moveBase_81 : decode prog_1_method_27_code 81 = .ok (.aload 5, 2) := by decide +kernel
theorem d_LogDisk_moveBase_83 : decode prog_1_method_27_code 83 = .ok (.aload_n 0, 1) := by decide +kernel
theorem d_LogDisk_moveBase_84 : decode prog_1_method_27_code 84 = .ok (.getfield 29, 3) := by decide +kernel
theorem d_LogDisk_moveBase_87 : decode prog_1_method_27_code 87 = .ok (.getfield 309, 3) := by decide +kernel
theorem d_LogDisk_moveBase_90 : decode prog_1_method_27_code 90 = .ok (.aload_n 0, 1) := by decide +kernel
theorem d_LogDisk_moveBase_91 : decode prog_1_method_27_code 91 = .ok (.getfield 29, 3) := by decide +kernel
theorem d_LogDisk_moveBase_94 : decode prog_1_method_27_code 94 = .ok (.getfield 310, 3) := by decide +kernel
theorem d_LogDisk_moveBase_97 : decode prog_1_method_27_code 97 = .ok (.invokevirtual 311, 3) := by decide +kernel
theorem d_LogDisk_moveBase_100 : decode prog_1_method_27_code 100 = .ok (.aload 5, 2) := by decide +kernel
theorem d_LogDisk_moveBase_102 : decode prog_1_method_27_code 102 = .ok (.aload_n 0, 1) := by decide +kernel
theorem d_LogDisk_moveBase_103 : decode prog_1_method_27_code 103 = .ok (.getfield 22, 3) := by decide +kernel
theorem d_LogDisk_moveBase_106 : decode prog_1_method_27_code 106 = .ok (.getfield 104, 3) := by decide +kernel
theorem d_LogDisk_moveBase_109 : decode prog_1_method_27_code 109 = .ok (.iload 4, 2) := by decide +kernel
theorem d_LogDisk_moveBase_111 : decode prog_1_method_27_code 111 = .ok (.invokevirtual 311, 3) := by decide +kernel
theorem d_LogDisk_moveBase_114 : decode prog_1_method_27_code 114 = .ok (.aload 5, 2) := by decide +kernel
theorem d_LogDisk_moveBase_116 : decode prog_1_method_27_code 116 = .ok (.invokevirtual 326, 3) := by decide +kernel
theorem d_LogDisk_moveBase_119 : decode prog_1_method_27_code 119 = .ok (.aload_n 0, 1) := by decide +kernel
theorem d_LogDisk_moveBase_120 : decode prog_1_method_27_code 120 = .ok (.invokevirtual 329, 3) := by decide +kernel
theorem d_LogDisk_moveBase_123 : decode prog_1_method_27_code 123 = .ok (.aload_n 0, 1) := by decide +kernel
theorem d_LogDisk_moveBase_124 : decode prog_1_method_27_code 124 = .ok (.iconst 1, 1) := by decide +kernel
theorem d_LogDisk_moveBase_125 : decode prog_1_method_27_code 125 = .ok (.putfield 144, 3) := by decide +kernel
theorem d_LogDisk_moveBase_128 : decode prog_1_method_27_code 128 = .ok (.return_, 1) := by decide +kernel
theorem d_LogDisk_dropSegments_0 : decode prog_1_method_28_code 0 = .ok (.aload_n 0, 1) := by decide +kernel
theorem d_LogDisk_dropSegments_1 : decode prog_1_method_28_code 1 = .ok (.getfield 150, 3) := by decide +kernel
theorem d_LogDisk_dropSegments_4 : decode prog_1_method_28_code 4 = .ok (.aload_n 0, 1) := by decide +kernel
theorem d_LogDisk_dropSegments_5 : decode prog_1_method_28_code 5 = .ok (.getfield 43, 3) := by decide +kernel
theorem d_LogDisk_dropSegments_8 : decode prog_1_method_28_code 8 = .ok (.getfield 161, 3) := by decide +kernel
theorem d_LogDisk_dropSegments_11 : decode prog_1_method_28_code 11 = .ok (.if_icmp .ne 13, 3) := by decide +kernel
theorem d_LogDisk_dropSegments_14 : decode prog_1_method_28_code 14 = .ok (.aload_n 0, 1) := by decide +kernel
theorem d_LogDisk_dropSegments_15 : decode prog_1_method_28_code 15 = .ok (.getfield 50, 3) := by decide +kernel
theorem d_LogDisk_dropSegments_18 : decode prog_1_method_28_code 18 = .ok (.getfield 194, 3) := by decide +kernel
theorem d_LogDisk_dropSegments_21 : decode prog_1_method_28_code 21 = .ok (.goto 17, 3) := by decide +kernel
theorem d_LogDisk_dropSegments_24 : decode prog_1_method_28_code 24 = .ok (.aload_n 0, 1) := by decide +kernel
theorem d_LogDisk_dropSegments_25 : decode prog_1_method_28_code 25 = .ok (.getfield 50, 3) := by decide +kernel
theorem d_LogDisk_dropSegments_28 : decode prog_1_method_28_code 28 = .ok (.aload_n 0, 1) := by decide +kernel
theorem d_LogDisk_dropSegments_29 : decode prog_1_method_28_code 29 = .ok (.getfield 43, 3) := by decide +kernel
theorem d_LogDisk_dropSegments_32 : decode prog_1_method_28_code 32 = .ok (.getfield 161, 3) := by decide +kernel
theorem d_LogDisk_dropSegments_35 : decode prog_1_method_28_code 35 = .ok (.invokevirtual 332, 3) := by decide +kernel
theorem d_LogDisk_dropSegments_38 : decode prog_1_method_28_code 38 = .ok (.istore_n 1, 1) := by decide +kernel
theorem d_LogDisk_dropSegments_39 : decode prog_1_method_28_code 39 = .ok (.iconst 0, 1) := by decide +kernel
theorem d_LogDisk_dropSegments_40 : decode prog_1_method_28_code 40 = .ok (.istore_n 2, 1) := by decide +kernel
theorem d_LogDisk_dropSegments_41 : decode prog_1_method_28_code 41 = .ok (.iload_n 2, 1) := by decide +kernel
theorem d_LogDisk_dropSegments_42 : decode prog_1_method_28_code 42 = .ok (.iload_n 1, 1) := by decide +kernel
theorem d_LogDisk_dropSegments_43 : decode prog_1_method_28_code 43 = .ok (.if_icmp .ge 26, 3) := by decide +kernel
theorem d_LogDisk_dropSegments_46 : decode prog_1_method_28_code 46 = .ok (.aload_n 0, 1) := by decide +kernel
theorem d_LogDisk_dropSegments_47 : decode prog_1_method_28_code 47 = .ok (.getfield 11, 3) := by decide +kernel
theorem d_LogDisk_dropSegments_50 : decode prog_1_method_28_code 50 = .ok (.aload_n 0, 1) := by decide +kernel
theorem d_LogDisk_dropSegments_51 : decode prog_1_method_28_code 51 = .ok (.getfield 50, 3) := by decide +kernel
theorem d_LogDisk_dropSegments_54 : decode prog_1_method_28_code 54 = .ok (.getfield 200, 3) := by decide +kernel
theorem d_LogDisk_dropSegments_57 : decode prog_1_method_28_code 57 = .ok (.iload_n 2, 1) := by decide +kernel
theorem d_LogDisk_dropSegments_58 : decode prog_1_method_28_code 58 = .ok (.iaload, 1) := by decide +kernel
theorem d_LogDisk_dropSegments_59 : decode prog_1_method_28_code 59 = .ok (.aaload, 1) := by decide +kernel
theorem d_LogDisk_dropSegments_60 : decode prog_1_method_28_code 60 = .ok (.invokevirtual 203, 3) := by decide +kernel
theorem d_LogDisk_dropSegments_63 : decode prog_1_method_28_code 63 = .ok (.iinc 2 1, 3) := by decide +kernel
theorem d_LogDisk_dropSegments_66 : decode prog_1_method_28_code 66 = .ok (.goto (-25), 3) := by decide +kernel
theorem d_LogDisk_dropSegments_69 : decode prog_1_method_28_code 69 = .ok (.aload_n 0, 1) := by decide +kernel
theorem d_LogDisk_dropSegments_70 : decode prog_1_method_28_code 70 = .ok (.getfield 50, 3) := by decide +kernel
theorem d_LogDisk_dropSegments_73 : decode prog_1_method_28_code 73 = .ok (.iload_n 1, 1) := by decide +kernel
theorem d_LogDisk_dropSegments_74 : decode prog_1_method_28_code 74 = .ok (.invokevirtual 335, 3) := by decide +kernel
theorem d_LogDisk_dropSegments_77 : decode prog_1_method_28_code 77 = .ok (.return_, 1) := by decide +kernel
theorem d_LogDisk_syncFiles_0 : decode prog_1_method_29_code 0 = .ok (.iconst 0, 1) := by decide +kernel
theorem d_LogDisk_syncFiles_1 : decode prog_1_method_29_code 1 = .ok (.istore_n 1, 1) := by decide +kernel
theorem d_LogDisk_syncFiles_2 : decode prog_1_method_29_code 2 = .ok (.iload_n 1, 1) := by decide +kernel
theorem d_LogDisk_syncFiles_3 : decode prog_1_method_29_code 3 = .ok (.bipush 16, 2) := by decide +kernel
theorem d_LogDisk_syncFiles_5 : decode prog_1_method_29_code 5 = .ok (.if_icmp .ge 18, 3) := by decide +kernel
theorem d_LogDisk_syncFiles_8 : decode prog_1_method_29_code 8 = .ok (.aload_n 0, 1) := by decide +kernel
theorem d_LogDisk_syncFiles_9 : decode prog_1_method_29_code 9 = .ok (.getfield 11, 3) := by decide +kernel
theorem d_LogDisk_syncFiles_12 : decode prog_1_method_29_code 12 = .ok (.iload_n 1, 1) := by decide +kernel
theorem d_LogDisk_syncFiles_13 : decode prog_1_method_29_code 13 = .ok (.aaload, 1) := by decide +kernel
theorem d_LogDisk_syncFiles_14 : decode prog_1_method_29_code 14 = .ok (.invokevirtual 326, 3) := by decide +kernel
theorem d_LogDisk_syncFiles_17 : decode prog_1_method_29_code 17 = .ok (.iinc 1 1, 3) := by decide +kernel
theorem d_LogDisk_syncFiles_20 : decode prog_1_method_29_code 20 = .ok (.goto (-18), 3) := by decide +kernel
theorem d_LogDisk_syncFiles_23 : decode prog_1_method_29_code 23 = .ok (.aload_n 0, 1) := by decide +kernel
theorem d_LogDisk_syncFiles_24 : decode prog_1_method_29_code 24 = .ok (.getfield 36, 3) := by decide +kernel
theorem d_LogDisk_syncFiles_27 : decode prog_1_method_29_code 27 = .ok (.iconst 0, 1) := by decide +kernel
theorem d_LogDisk_syncFiles_28 : decode prog_1_method_29_code 28 = .ok (.putfield 137, 3) := by decide +kernel
theorem d_LogDisk_syncFiles_31 : decode prog_1_method_29_code 31 = .ok (.aload_n 0, 1) := by decide +kernel
theorem d_LogDisk_syncFiles_32 : decode prog_1_method_29_code 32 = .ok (.iconst 0, 1) := by decide +kernel
theorem d_LogDisk_syncFiles_33 : decode prog_1_method_29_code 33 = .ok (.putfield 144, 3) := by decide +kernel
theorem d_LogDisk_syncFiles_36 : decode prog_1_method_29_code 36 = .ok (.return_, 1) := by decide +kernel
theorem d_LogDisk_crashFiles_0 : decode prog_1_method_30_code 0 = .ok (.lload_n 1, 1) := by decide +kernel
theorem d_LogDisk_crashFiles_1 : decode prog_1_method_30_code 1 = .ok (.lstore_n 3, 1) := by decide +kernel
theorem d_LogDisk_crashFiles_2 : decode prog_1_method_30_code 2 = .ok (.iconst 0, 1) := by decide +kernel
theorem d_LogDisk_crashFiles_3 : decode prog_1_method_30_code 3 = .ok (.istore 5, 2) := by decide +kernel
theorem d_LogDisk_crashFiles_5 : decode prog_1_method_30_code 5 = .ok (.iload 5, 2) := by decide +kernel
theorem d_LogDisk_crashFiles_7 : decode prog_1_method_30_code 7 = .ok (.bipush 16, 2) := by decide +kernel
theorem d_LogDisk_crashFiles_9 : decode prog_1_method_30_code 9 = .ok (.if_icmp .ge 73, 3) := by decide +kernel
theorem d_LogDisk_crashFiles_12 : decode prog_1_method_30_code 12 = .ok (.lload_n 3, 1) := by decide +kernel
theorem d_LogDisk_crashFiles_13 : decode prog_1_method_30_code 13 = .ok (.ldc2_w 338, 3) := by decide +kernel
theorem d_LogDisk_crashFiles_16 : decode prog_1_method_30_code 16 = .ok (.lmul, 1) := by decide +kernel
theorem d_LogDisk_crashFiles_17 : decode prog_1_method_30_code 17 = .ok (.ldc2_w 340, 3) := by decide +kernel
theorem d_LogDisk_crashFiles_20 : decode prog_1_method_30_code 20 = .ok (.ladd, 1) := by decide +kernel
theorem d_LogDisk_crashFiles_21 : decode prog_1_method_30_code 21 = .ok (.lstore_n 3, 1) := by decide +kernel
theorem d_LogDisk_crashFiles_22 : decode prog_1_method_30_code 22 = .ok (.aload_n 0, 1) := by decide +kernel
theorem d_LogDisk_crashFiles_23 : decode prog_1_method_30_code 23 = .ok (.getfield 15, 3) := by decide +kernel
theorem d_LogDisk_crashFiles_26 : decode prog_1_method_30_code 26 = .ok (.iload 5, 2) := by decide +kernel
theorem d_LogDisk_crashFiles_28 : decode prog_1_method_30_code 28 = .ok (.iaload, 1) := by decide +kernel
theorem d_LogDisk_crashFiles_29 : decode prog_1_method_30_code 29 = .ok (.iconst (-1), 1) := by decide +kernel
theorem d_LogDisk_crashFiles_30 : decode prog_1_method_30_code 30 = .ok (.if_icmp .ne 17, 3) := by decide +kernel
theorem d_LogDisk_crashFiles_33 : decode prog_1_method_30_code 33 = .ok (.aload_n 0, 1) := by decide +kernel
theorem d_LogDisk_crashFiles_34 : decode prog_1_method_30_code 34 = .ok (.getfield 11, 3) := by decide +kernel
theorem d_LogDisk_crashFiles_37 : decode prog_1_method_30_code 37 = .ok (.iload 5, 2) := by decide +kernel
theorem d_LogDisk_crashFiles_39 : decode prog_1_method_30_code 39 = .ok (.aaload, 1) := by decide +kernel
theorem d_LogDisk_crashFiles_40 : decode prog_1_method_30_code 40 = .ok (.lload_n 3, 1) := by decide +kernel
theorem d_LogDisk_crashFiles_41 : decode prog_1_method_30_code 41 = .ok (.invokevirtual 342, 3) := by decide +kernel
theorem d_LogDisk_crashFiles_44 : decode prog_1_method_30_code 44 = .ok (.goto 10, 3) := by decide +kernel
theorem d_LogDisk_crashFiles_47 : decode prog_1_method_30_code 47 = .ok (.aload_n 0, 1) := by decide +kernel
theorem d_LogDisk_crashFiles_48 : decode prog_1_method_30_code 48 = .ok (.getfield 15, 3) := by decide +kernel
theorem d_LogDisk_crashFiles_51 : decode prog_1_method_30_code 51 = .ok (.iload 5, 2) := by decide +kernel
theorem d_LogDisk_crashFiles_53 : decode prog_1_method_30_code 53 = .ok (.iaload, 1) := by decide +kernel
theorem d_LogDisk_crashFiles_54 : decode prog_1_method_30_code 54 = .ok (.istore 6, 2) := by decide +kernel
theorem d_LogDisk_crashFiles_56 : decode prog_1_method_30_code 56 = .ok (.aload_n 0, 1) := by decide +kernel
theorem d_LogDisk_crashFiles_57 : decode prog_1_method_30_code 57 = .ok (.getfield 11, 3) := by decide +kernel
theorem d_LogDisk_crashFiles_60 : decode prog_1_method_30_code 60 = .ok (.iload 5, 2) := by decide +kernel
theorem d_LogDisk_crashFiles_62 : decode prog_1_method_30_code 62 = .ok (.aaload, 1) := by decide +kernel
theorem d_LogDisk_crashFiles_63 : decode prog_1_method_30_code 63 = .ok (.iload 6, 2) := by decide +kernel
theorem d_LogDisk_crashFiles_65 : decode prog_1_method_30_code 65 = .ok (.invokevirtual 346, 3) := by decide +kernel
theorem d_LogDisk_crashFiles_68 : decode prog_1_method_30_code 68 = .ok (.aload_n 0, 1) := by decide +kernel
theorem d_LogDisk_crashFiles_69 : decode prog_1_method_30_code 69 = .ok (.getfield 15, 3) := by decide +kernel
theorem d_LogDisk_crashFiles_72 : decode prog_1_method_30_code 72 = .ok (.iload 5, 2) := by decide +kernel
theorem d_LogDisk_crashFiles_74 : decode prog_1_method_30_code 74 = .ok (.iconst (-1), 1) := by decide +kernel
theorem d_LogDisk_crashFiles_75 : decode prog_1_method_30_code 75 = .ok (.iastore, 1) := by decide +kernel
theorem d_LogDisk_crashFiles_76 : decode prog_1_method_30_code 76 = .ok (.iinc 5 1, 3) := by decide +kernel
theorem d_LogDisk_crashFiles_79 : decode prog_1_method_30_code 79 = .ok (.goto (-74), 3) := by decide +kernel
theorem d_LogDisk_crashFiles_82 : decode prog_1_method_30_code 82 = .ok (.return_, 1) := by decide +kernel
theorem d_LogDisk_findVote_0 : decode prog_1_method_31_code 0 = .ok (.aload_n 0, 1) := by decide +kernel
theorem d_LogDisk_findVote_1 : decode prog_1_method_31_code 1 = .ok (.getfield 36, 3) := by decide +kernel
theorem d_LogDisk_findVote_4 : decode prog_1_method_31_code 4 = .ok (.invokevirtual 349, 3) := by decide +kernel
theorem d_LogDisk_findVote_7 : decode prog_1_method_31_code 7 = .ok (.iconst 0, 1) := by decide +kernel
theorem d_LogDisk_findVote_8 : decode prog_1_method_31_code 8 = .ok (.istore_n 1, 1) := by decide +kernel
theorem d_LogDisk_findVote_9 : decode prog_1_method_31_code 9 = .ok (.iload_n 1, 1) := by decide +kernel
theorem d_LogDisk_findVote_10 : decode prog_1_method_31_code 10 = .ok (.iconst 2, 1) := by decide +kernel
theorem d_LogDisk_findVote_11 : decode prog_1_method_31_code 11 = .ok (.if_icmp .ge 77, 3) := by decide +kernel
theorem d_LogDisk_findVote_14 : decode prog_1_method_31_code 14 = .ok (.aload_n 0, 1) := by decide +kernel
theorem d_LogDisk_findVote_15 : decode prog_1_method_31_code 15 = .ok (.getfield 11, 3) := by decide +kernel
theorem d_LogDisk_findVote_18 : decode prog_1_method_31_code 18 = .ok (.iload_n 1, 1) := by decide +kernel
theorem d_LogDisk_findVote_19 : decode prog_1_method_31_code 19 = .ok (.aaload, 1) := by decide +kernel
theorem d_LogDisk_findVote_20 : decode prog_1_method_31_code 20 = .ok (.astore_n 2, 1) := by decide +kernel
theorem d_LogDisk_findVote_21 : decode prog_1_method_31_code 21 = .ok (.aload_n 2, 1) := by decide +kernel
theorem d_LogDisk_findVote_22 : decode prog_1_method_31_code 22 = .ok (.iconst 0, 1) := by decide +kernel
theorem d_LogDisk_findVote_23 : decode prog_1_method_31_code 23 = .ok (.invokevirtual 352, 3) := by decide +kernel
theorem d_LogDisk_findVote_26 : decode prog_1_method_31_code 26 = .ok (.bipush 24, 2) := by decide +kernel
theorem d_LogDisk_findVote_28 : decode prog_1_method_31_code 28 = .ok (.if_icmp .eq 6, 3) := by decide +kernel
theorem d_LogDisk_findVote_31 : decode prog_1_method_31_code 31 = .ok (.goto 51, 3) := by decide +kernel
theorem d_LogDisk_findVote_34 : decode prog_1_method_31_code 34 = .ok (.aload_n 2, 1) := by decide +kernel
theorem d_LogDisk_findVote_35 : decode prog_1_method_31_code 35 = .ok (.bipush 8, 2) := by decide +kernel
theorem d_LogDisk_findVote_37 : decode prog_1_method_31_code 37 = .ok (.bipush 8, 2) := by decide +kernel
theorem d_LogDisk_findVote_39 : decode prog_1_method_31_code 39 = .ok (.invokevirtual 355, 3) := by decide +kernel
theorem d_LogDisk_findVote_42 : decode prog_1_method_31_code 42 = .ok (.lstore_n 3, 1) := by decide +kernel
theorem d_LogDisk_findVote_43 : decode prog_1_method_31_code 43 = .ok (.lload_n 3, 1) := by decide +kernel
theorem d_LogDisk_findVote_44 : decode prog_1_method_31_code 44 = .ok (.aload_n 0, 1) := by decide +kernel
theorem d_LogDisk_findVote_45 : decode prog_1_method_31_code 45 = .ok (.getfield 36, 3) := by decide +kernel
theorem d_LogDisk_findVote_48 : decode prog_1_method_31_code 48 = .ok (.getfield 129, 3) := by decide +kernel
theorem d_LogDisk_findVote_51 : decode prog_1_method_31_code 51 = .ok (.lcmp, 1) := by decide +kernel
theorem d_LogDisk_findVote_52 : decode prog_1_method_31_code 52 = .ok (.ifCond .le 30, 3) := by decide +kernel
theorem d_LogDisk_findVote_55 : decode prog_1_method_31_code 55 = .ok (.aload_n 0, 1) := by decide +kernel
theorem d_LogDisk_findVote_56 : decode prog_1_method_31_code 56 = .ok (.getfield 36, 3) := by decide +kernel
theorem d_LogDisk_findVote_59 : decode prog_1_method_31_code 59 = .ok (.iload_n 1, 1) := by decide +kernel
theorem d_LogDisk_findVote_60 : decode prog_1_method_31_code 60 = .ok (.lload_n 3, 1) := by decide +kernel
theorem d_LogDisk_findVote_61 : decode prog_1_method_31_code 61 = .ok (.aload_n 2, 1) := by decide +kernel
theorem d_LogDisk_findVote_62 : decode prog_1_method_31_code 62 = .ok (.bipush 16, 2) := by decide +kernel
theorem d_LogDisk_findVote_64 : decode prog_1_method_31_code 64 = .ok (.bipush 8, 2) := by decide +kernel
theorem d_LogDisk_findVote_66 : decode prog_1_method_31_code 66 = .ok (.invokevirtual 355, 3) := by decide +kernel
theorem d_LogDisk_findVote_69 : decode prog_1_method_31_code 69 = .ok (.l2i, 1) := by decide +kernel
theorem d_LogDisk_findVote_70 : decode prog_1_method_31_code 70 = .ok (.aload_n 2, 1) := by decide +kernel
theorem d_LogDisk_findVote_71 : decode prog_1_method_31_code 71 = .ok (.bipush 24, 2) := by decide +kernel
theorem d_LogDisk_findVote_73 : decode prog_1_method_31_code 73 = .ok (.bipush 8, 2) := by decide +kernel
theorem d_LogDisk_findVote_75 : decode prog_1_method_31_code 75 = .ok (.invokevirtual 355, 3) := by decide +kernel
theorem d_LogDisk_findVote_78 : decode prog_1_method_31_code 78 = .ok (.l2i, 1) := by decide +kernel
theorem d_LogDisk_findVote_79 : decode prog_1_method_31_code 79 = .ok (.invokevirtual 133, 3) := by decide +kernel
theorem d_LogDisk_findVote_82 : decode prog_1_method_31_code 82 = .ok (.iinc 1 1, 3) := by decide +kernel
theorem d_LogDisk_findVote_85 : decode prog_1_method_31_code 85 = .ok (.goto (-76), 3) := by decide +kernel
theorem d_LogDisk_findVote_88 : decode prog_1_method_31_code 88 = .ok (.return_, 1) := by decide +kernel
theorem d_LogDisk_findSnapshot_0 : decode prog_1_method_32_code 0 = .ok (.aload_n 0, 1) := by decide +kernel
theorem d_LogDisk_findSnapshot_1 : decode prog_1_method_32_code 1 = .ok (.getfield 43, 3) := by decide +kernel
theorem d_LogDisk_findSnapshot_4 : decode prog_1_method_32_code 4 = .ok (.iconst (-1), 1) := by decide +kernel
theorem d_LogDisk_findSnapshot_5 : decode prog_1_method_32_code 5 = .ok (.iconst 0, 1) := by decide +kernel
theorem d_LogDisk_findSnapshot_6 : decode prog_1_method_32_code 6 = .ok (.iconst 0, 1) := by decide +kernel
theorem d_LogDisk_findSnapshot_7 : decode prog_1_method_32_code 7 = .ok (.aload_n 0, 1) := by decide +kernel
theorem d_LogDisk_findSnapshot_8 : decode prog_1_method_32_code 8 = .ok (.getfield 82, 3) := by decide +kernel
theorem d_LogDisk_findSnapshot_11 : decode prog_1_method_32_code 11 = .ok (.invokevirtual 324, 3) := by decide +kernel
theorem d_LogDisk_findSnapshot_14 : decode prog_1_method_32_code 14 = .ok (.iconst 2, 1) := by decide +kernel
theorem d_LogDisk_findSnapshot_15 : decode prog_1_method_32_code 15 = .ok (.istore_n 1, 1) := by decide +kernel
theorem d_LogDisk_findSnapshot_16 : decode prog_1_method_32_code 16 = .ok (.iload_n 1, 1) := by decide +kernel
theorem d_LogDisk_findSnapshot_17 : decode prog_1_method_32_code 17 = .ok (.iconst 4, 1) := by decide +kernel
theorem d_LogDisk_findSnapshot_18 : decode prog_1_method_32_code 18 = .ok (.if_icmp .ge 78, 3) := by decide +kernel
theorem d_LogDisk_findSnapshot_21 : decode prog_1_method_32_code 21 = .ok (.aload_n 0, 1) := by decide +kernel
theorem d_LogDisk_findSnapshot_22 : decode prog_1_method_32_code 22 = .ok (.getfield 11, 3) := by decide +kernel
theorem d_LogDisk_findSnapshot_25 : decode prog_1_method_32_code 25 = .ok (.iload_n 1, 1) := by decide +kernel
theorem d_LogDisk_findSnapshot_26 : decode prog_1_method_32_code 26 = .ok (.aaload, 1) := by decide +kernel
theorem d_LogDisk_findSnapshot_27 : decode prog_1_method_32_code 27 = .ok (.astore_n 2, 1) := by decide +kernel
theorem d_LogDisk_findSnapshot_28 : decode prog_1_method_32_code 28 = .ok (.aload_n 2, 1) := by decide +kernel
theorem d_LogDisk_findSnapshot_29 : decode prog_1_method_32_code 29 = .ok (.iconst 0, 1) := by decide +kernel
theorem d_LogDisk_findSnapshot_30 : decode prog_1_method_32_code 30 = .ok (.invokevirtual 352, 3) := by decide +kernel
theorem d_LogDisk_findSnapshot_33 : decode prog_1_method_32_code 33 = .ok (.bipush 12, 2) := by decide +kernel
theorem d_LogDisk_findSnapshot_35 : decode prog_1_method_32_code 35 = .ok (.if_icmp .eq 6, 3) := by decide +kernel
theorem d_LogDisk_findSnapshot_38 : decode prog_1_method_32_code 38 = .ok (.goto 52, 3) := by decide +kernel
theorem d_LogDisk_findSnapshot_41 : decode prog_1_method_32_code 41 = .ok (.aload_n 2, 1) := by decide +kernel
theorem d_LogDisk_findSnapshot_42 : decode prog_1_method_32_code 42 = .ok (.bipush 8, 2) := by decide +kernel
theorem d_LogDisk_findSnapshot_44 : decode prog_1_method_32_code 44 = .ok (.iconst 4, 1) := by decide +kernel
theorem d_LogDisk_findSnapshot_45 : decode prog_1_method_32_code 45 = .ok (.invokevirtual 355, 3) := by decide +kernel
theorem d_LogDisk_findSnapshot_48 : decode prog_1_method_32_code 48 = .ok (.l2i, 1) := by decide +kernel
theorem d_LogDisk_findSnapshot_49 : decode prog_1_method_32_code 49 = .ok (.istore_n 3, 1) := by decide +kernel
theorem d_LogDisk_findSnapshot_50 : decode prog_1_method_32_code 50 = .ok (.iload_n 3, 1) := by decide +kernel
theorem d_LogDisk_findSnapshot_51 : decode prog_1_method_32_code 51 = .ok (.aload_n 0, 1) := by decide +kernel
theorem d_LogDisk_findSnapshot_52 : decode prog_1_method_32_code 52 = .ok (.getfield 43, 3) := by decide +kernel
theorem d_LogDisk_findSnapshot_55 : decode prog_1_method_32_code 55 = .ok (.getfield 161, 3) := by decide +kernel
theorem d_LogDisk_findSnapshot_58 : decode prog_1_method_32_code 58 = .ok (.if_icmp .le 32, 3) := by decide +kernel
theorem d_LogDisk_findSnapshot_61 : decode prog_1_method_32_code 61 = .ok (.aload_n 2, 1) := by decide +kernel
theorem d_LogDisk_findSnapshot_62 : decode prog_1_method_32_code 62 = .ok (.bipush 12, 2) := by decide +kernel
theorem d_LogDisk_findSnapshot_64 : decode prog_1_method_32_code 64 = .ok (.iconst 4, 1) := by decide +kernel
theorem d_LogDisk_findSnapshot_65 : decode prog_1_method_32_code 65 = .ok (.invokevirtual 355, 3) := by decide +kernel
theorem d_LogDisk_findSnapshot_68 : decode prog_1_method_32_code 68 = .ok (.l2i, 1) := by decide +kernel
theorem d_LogDisk_findSnapshot_69 : decode prog_1_method_32_code 69 = .ok (.istore 4, 2) := by decide +kernel
theorem d_LogDisk_findSnapshot_71 : decode prog_1_method_32_code 71 = .ok (.aload_n 0, 1) := by decide +kernel
theorem d_LogDisk_findSnapshot_72 : decode prog_1_method_32_code 72 = .ok (.getfield 43, 3) := by decide +kernel
theorem d_LogDisk_findSnapshot_75 : decode prog_1_method_32_code 75 = .ok (.iload_n 1, 1) := by decide +kernel
theorem d_LogDisk_findSnapshot_76 : decode prog_1_method_32_code 76 = .ok (.iload_n 3, 1) := by decide +kernel
theorem d_LogDisk_findSnapshot_77 : decode prog_1_method_32_code 77 = .ok (.iload 4, 2) := by decide +kernel
theorem d_LogDisk_findSnapshot_79 : decode prog_1_method_32_code 79 = .ok (.aload_n 2, 1) := by decide +kernel
theorem d_LogDisk_findSnapshot_80 : decode prog_1_method_32_code 80 = .ok (.bipush 16, 2) := by decide +kernel
theorem d_LogDisk_findSnapshot_82 : decode prog_1_method_32_code 82 = .ok (.iconst 4, 1) := by decide +kernel
theorem d_LogDisk_findSnapshot_83 : decode prog_1_method_32_code 83 = .ok (.invokevirtual 355, 3) := by decide +kernel
theorem d_LogDisk_findSnapshot_86 : decode prog_1_method_32_code 86 = .ok (.l2i, 1) := by decide +kernel
theorem d_LogDisk_findSnapshot_87 : decode prog_1_method_32_code 87 = .ok (.invokevirtual 324, 3) := by decide +kernel
theorem d_LogDisk_findSnapshot_90 : decode prog_1_method_32_code 90 = .ok (.iinc 1 1, 3) := by decide +kernel
theorem d_LogDisk_findSnapshot_93 : decode prog_1_method_32_code 93 = .ok (.goto (-77), 3) := by decide +kernel
theorem d_LogDisk_findSnapshot_96 : decode prog_1_method_32_code 96 = .ok (.return_, 1) := by decide +kernel
theorem d_LogDisk_findLog_0 : decode prog_1_method_33_code 0 = .ok (.aload_n 0, 1) := by decide +kernel
theorem d_LogDisk_findLog_1 : decode prog_1_method_33_code 1 = .ok (.getfield 50, 3) := by decide +kernel
theorem d_LogDisk_findLog_4 : decode prog_1_method_33_code 4 = .ok (.iconst 0, 1) := by decide +kernel
theorem d_LogDisk_findLog_5 : decode prog_1_method_33_code 5 = .ok (.putfield 194, 3) := by decide +kernel
theorem d_LogDisk_findLog_8 : decode prog_1_method_33_code 8 = .ok (.aload_n 0, 1) := by decide +kernel
theorem d_LogDisk_findLog_9 : decode prog_1_method_33_code 9 = .ok (.aload_n 0, 1) := by decide +kernel
theorem d_LogDisk_findLog_10 : decode prog_1_method_33_code 10 = .ok (.getfield 43, 3) := by decide +kernel
theorem d_LogDisk_findLog_13 : decode prog_1_method_33_code 13 = .ok (.getfield 161, 3) := by decide +kernel
theorem d_LogDisk_findLog_16 : decode prog_1_method_33_code 16 = .ok (.putfield 150, 3) := by decide +kernel
theorem d_LogDisk_findLog_19 : decode prog_1_method_33_code 19 = .ok (.aload_n 0, 1) := by decide +kernel
theorem d_LogDisk_findLog_20 : decode prog_1_method_33_code 20 = .ok (.invokevirtual 359, 3) := by decide +kernel
theorem d_LogDisk_findLog_23 : decode prog_1_method_33_code 23 = .ok (.istore_n 1, 1) := by decide +kernel
theorem d_LogDisk_findLog_24 : decode prog_1_method_33_code 24 = .ok (.iload_n 1, 1) := by decide +kernel
theorem d_LogDisk_findLog_25 : decode prog_1_method_33_code 25 = .ok (.iconst (-1), 1) := by decide +kernel
theorem d_LogDisk_findLog_26 : decode prog_1_method_33_code 26 = .ok (.if_icmp .ne 7, 3) := by decide +kernel
theorem d_LogDisk_findLog_29 : decode prog_1_method_33_code 29 = .ok (.iconst (-1), 1) := by decide +kernel
theorem d_LogDisk_findLog_30 : decode prog_1_method_33_code 30 = .ok (.goto 8, 3) := by decide +kernel
theorem d_LogDisk_findLog_33 : decode prog_1_method_33_code 33 = .ok (.aload_n 0, 1) := by decide +kernel
theorem d_LogDisk_findLog_34 : decode prog_1_method_33_code 34 = .ok (.iload_n 1, 1) := by decide +kernel
theorem d_LogDisk_findLog_35 : decode prog_1_method_33_code 35 = .ok (.invokevirtual 362, 3) := by decide +kernel
theorem d_LogDisk_findLog_38 : decode prog_1_method_33_code 38 = .ok (.istore_n 2, 1) := by decide +kernel
theorem d_LogDisk_findLog_39 : decode prog_1_method_33_code 39 = .ok (.iload_n 1, 1) := by decide +kernel
theorem d_LogDisk_findLog_40 : decode prog_1_method_33_code 40 = .ok (.iconst (-1), 1) := by decide +kernel
theorem d_LogDisk_findLog_41 : decode prog_1_method_33_code 41 = .ok (.if_icmp .eq 18, 3) := by decide +kernel
theorem d_LogDisk_findLog_44 : decode prog_1_method_33_code 44 = .ok (.aload_n 0, 1) := by decide +kernel
theorem d_LogDisk_findLog_45 : decode prog_1_method_33_code 45 = .ok (.iload_n 1, 1) := by decide +kernel
theorem d_LogDisk_findLog_46 : decode prog_1_method_33_code 46 = .ok (.iload_n 2, 1) := by decide +kernel
theorem d_LogDisk_findLog_47 : decode prog_1_method_33_code 47 = .ok (.invokevirtual 365, 3) := by decide +kernel
theorem d_LogDisk_findLog_50 : decode prog_1_method_33_code 50 = .ok (.ifCond .eq 9, 3) := by decide +kernel
theorem d_LogDisk_findLog_53 : decode prog_1_method_33_code 53 = .ok (.aload_n 0, 1) := by decide +kernel
theorem d_LogDisk_findLog_54 : decode prog_1_method_33_code 54 = .ok (.iload_n 1, 1) := by decide +kernel
theorem d_LogDisk_findLog_55 : decode prog_1_method_33_code 55 = .ok (.iload_n 2, 1) := by decide +kernel
theorem d_LogDisk_findLog_56 : decode prog_1_method_33_code 56 = .ok (.invokevirtual 369, 3) := by decide +kernel
theorem d_LogDisk_findLog_59 : decode prog_1_method_33_code 59 = .ok (.iconst 4, 1) := by decide +kernel
theorem d_LogDisk_findLog_60 : decode prog_1_method_33_code 60 = .ok (.istore_n 3, 1) := by decide +kernel
theorem d_LogDisk_findLog_61 : decode prog_1_method_33_code 61 = .ok (.iload_n 3, 1) := by decide +kernel
theorem d_LogDisk_findLog_62 : decode prog_1_method_33_code 62 = .ok (.bipush 16, 2) := by decide +kernel
theorem d_LogDisk_findLog_64 : decode prog_1_method_33_code 64 = .ok (.if_icmp .ge 29, 3) := by decide +kernel
theorem d_LogDisk_findLog_67 : decode prog_1_method_33_code 67 = .ok (.aload_n 0, 1) := by decide +kernel
theorem d_LogDisk_findLog_68 : decode prog_1_method_33_code 68 = .ok (.getfield 50, 3) := by decide +kernel
theorem d_LogDisk_findLog_71 : decode prog_1_method_33_code 71 = .ok (.iload_n 3, 1) := by decide +kernel
theorem d_LogDisk_findLog_72 : decode prog_1_method_33_code 72 = .ok (.invokevirtual 372, 3) := by decide +kernel
theorem d_LogDisk_findLog_75 : decode prog_1_method_33_code 75 = .ok (.ifCond .ne 12, 3) := by decide +kernel
theorem d_LogDisk_findLog_78 : decode prog_1_method_33_code 78 = .ok (.aload_n 0, 1) := by decide +kernel
theorem d_LogDisk_findLog_79 : decode prog_1_method_33_code 79 = .ok (.getfield 11, 3) := by decide +kernel
theorem d_LogDisk_findLog_82 : decode prog_1_method_33_code 82 = .ok (.iload_n 3, 1) := by decide +kernel
theorem d_LogDisk_findLog_83 : decode prog_1_method_33_code 83 = .ok (.aaload, 1) := by decide +kernel
theorem d_LogDisk_findLog_84 : decode prog_1_method_33_code 84 = .ok (.invokevirtual 203, 3) := by decide +kernel
theorem d_LogDisk_findLog_87 : decode prog_1_method_33_code 87 = .ok (.iinc 3 1, 3) := by decide +kernel
theorem d_LogDisk_findLog_90 : decode prog_1_method_33_code 90 = .ok (.goto (-29), 3) := by decide +kernel
theorem d_LogDisk_findLog_93 : decode prog_1_method_33_code 93 = .ok (.return_, 1) := by decide +kernel
theorem d_LogDisk_followSegments_0 : decode prog_1_method_34_code 0 = .ok (.iload_n 1, 1) := by decide +kernel
theorem d_LogDisk_followSegments_1 : decode prog_1_method_34_code 1 = .ok (.istore_n 3, 1) := by decide +kernel
theorem d_LogDisk_followSegments_2 : decode prog_1_method_34_code 2 = .ok (.iload_n 2, 1) := by decide +kernel
theorem d_LogDisk_followSegments_3 : decode prog_1_method_34_code 3 = .ok (.istore 4, 2) := by decide +kernel
theorem d_LogDisk_followSegments_5 : decode prog_1_method_34_code 5 = .ok (.iconst 0, 1) := by decide +kernel
theorem d_LogDisk_followSegments_6 : decode prog_1_method_34_code 6 = .ok (.istore 5, 2) := by decide +kernel
theorem d_LogDisk_followSegments_8 : decode prog_1_method_34_code 8 = .ok (.iload 5, 2) := by decide +kernel
theorem d_LogDisk_followSegments_10 : decode prog_1_method_34_code 10 = .ok (.bipush 12, 2) := by decide +kernel
theorem d_LogDisk_followSegments_12 : decode prog_1_method_34_code 12 = .ok (.if_icmp .ge 81, 3) := by decide +kernel
theorem d_LogDisk_followSegments_15 : decode prog_1_method_34_code 15 = .ok (.aload_n 0, 1) := by decide +kernel
theorem d_LogDisk_followSegments_16 : decode prog_1_method_34_code 16 = .ok (.getfield 11, 3) := by decide +kernel
theorem d_LogDisk_followSegments_19 : decode prog_1_method_34_code 19 = .ok (.iload_n 3, 1) := by decide +kernel
theorem d_LogDisk_followSegments_20 : decode prog_1_method_34_code 20 = .ok (.aaload, 1) := by decide +kernel
theorem d_LogDisk_followSegments_21 : decode prog_1_method_34_code 21 = .ok (.invokevirtual 375, 3) := by decide +kernel
theorem d_LogDisk_followSegments_24 : decode prog_1_method_34_code 24 = .ok (.istore 6, 2) := by decide +kernel
theorem d_LogDisk_followSegments_26 : decode prog_1_method_34_code 26 = .ok (.aload_n 0, 1) := by decide +kernel
theorem d_LogDisk_followSegments_27 : decode prog_1_method_34_code 27 = .ok (.getfield 50, 3) := by decide +kernel
theorem d_LogDisk_followSegments_30 : decode prog_1_method_34_code 30 = .ok (.iload_n 3, 1) := by decide +kernel
theorem d_LogDisk_followSegments_31 : decode prog_1_method_34_code 31 = .ok (.iload 6, 2) := by decide +kernel
theorem d_LogDisk_followSegments_33 : decode prog_1_method_34_code 33 = .ok (.invokevirtual 315, 3) := by decide +kernel
theorem d_LogDisk_followSegments_36 : decode prog_1_method_34_code 36 = .ok (.aload_n 0, 1) := by decide +kernel
theorem d_LogDisk_followSegments_37 : decode prog_1_method_34_code 37 = .ok (.iload 4, 2) := by decide +kernel
theorem d_LogDisk_followSegments_39 : decode prog_1_method_34_code 39 = .ok (.putfield 150, 3) := by decide +kernel
theorem d_LogDisk_followSegments_42 : decode prog_1_method_34_code 42 = .ok (.iload 4, 2) := by decide +kernel
theorem d_LogDisk_followSegments_44 : decode prog_1_method_34_code 44 = .ok (.iload 6, 2) := by decide +kernel
theorem d_LogDisk_followSegments_46 : decode prog_1_method_34_code 46 = .ok (.if_icmp .ge 4, 3) := by decide +kernel
theorem d_LogDisk_followSegments_49 : decode prog_1_method_34_code 49 = .ok (.return_, 1) := by decide +kernel
theorem d_LogDisk_followSegments_50 : decode prog_1_method_34_code 50 = .ok (.aload_n 0, 1) := by decide +kernel
theorem d_LogDisk_followSegments_51 : decode prog_1_method_34_code 51 = .ok (.iload 4, 2) := by decide +kernel
theorem d_LogDisk_followSegments_53 : decode prog_1_method_34_code 53 = .ok (.aload_n 0, 1) := by decide +kernel
theorem d_LogDisk_followSegments_54 : decode prog_1_method_34_code 54 = .ok (.getfield 57, 3) := by decide +kernel
theorem d_LogDisk_followSegments_57 : decode prog_1_method_34_code 57 = .ok (.getfield 261, 3) := by decide +kernel
theorem d_LogDisk_followSegments_60 : decode prog_1_method_34_code 60 = .ok (.aload_n 0, 1) := by decide +kernel
theorem d_LogDisk_followSegments_61 : decode prog_1_method_34_code 61 = .ok (.getfield 57, 3) := by decide +kernel
theorem d_LogDisk_followSegments_64 : decode prog_1_method_34_code 64 = .ok (.iload 4, 2) := by decide +kernel
theorem d_LogDisk_followSegments_66 : decode prog_1_method_34_code 66 = .ok (.invokevirtual 206, 3) := by decide +kernel
theorem d_LogDisk_followSegments_69 : decode prog_1_method_34_code 69 = .ok (.iaload, 1) := by decide +kernel
theorem d_LogDisk_followSegments_70 : decode prog_1_method_34_code 70 = .ok (.invokevirtual 378, 3) := by decide +kernel
theorem d_LogDisk_followSegments_73 : decode prog_1_method_34_code 73 = .ok (.istore_n 3, 1) := by decide +kernel
theorem d_LogDisk_followSegments_74 : decode prog_1_method_34_code 74 = .ok (.iload_n 3, 1) := by decide +kernel
theorem d_LogDisk_followSegments_75 : decode prog_1_method_34_code 75 = .ok (.iconst (-1), 1) := by decide +kernel
theorem d_LogDisk_followSegments_76 : decode prog_1_method_34_code 76 = .ok (.if_icmp .ne 4, 3) := by decide +kernel
theorem d_LogDisk_followSegments_79 : decode prog_1_method_34_code 79 = .ok (.return_, 1) := by decide +kernel
theorem d_LogDisk_followSegments_80 : decode prog_1_method_34_code 80 = .ok (.aload_n 0, 1) := by decide +kernel
theorem d_LogDisk_followSegments_81 : decode prog_1_method_34_code 81 = .ok (.iload_n 3, 1) := by decide +kernel
theorem d_LogDisk_followSegments_82 : decode prog_1_method_34_code 82 = .ok (.invokevirtual 362, 3) := by decide +kernel
theorem d_LogDisk_followSegments_85 : decode prog_1_method_34_code 85 = .ok (.istore 4, 2) := by decide +kernel
theorem d_LogDisk_followSegments_87 : decode prog_1_method_34_code 87 = .ok (.iinc 5 1, 3) := by decide +kernel
theorem d_LogDisk_followSegments_90 : decode prog_1_method_34_code 90 = .ok (.goto (-82), 3) := by decide +kernel
theorem d_LogDisk_followSegments_93 : decode prog_1_method_34_code 93 = .ok (.return_, 1) := by decide +kernel
theorem d_LogDisk_firstSegment_0 : decode prog_1_method_35_code 0 = .ok (.iconst (-1), 1) := by decide +kernel
theorem d_LogDisk_firstSegment_1 : decode prog_1_method_35_code 1 = .ok (.istore_n 1, 1) := by decide +kernel
theorem d_LogDisk_firstSegment_2 : decode prog_1_method_35_code 2 = .ok (.iconst 0, 1) := by decide +kernel
theorem d_LogDisk_firstSegment_3 : decode prog_1_method_35_code 3 = .ok (.istore_n 2, 1) := by decide +kernel
theorem d_LogDisk_firstSegment_4 : decode prog_1_method_35_code 4 = .ok (.iconst 4, 1) := by decide +kernel
theorem d_LogDisk_firstSegment_5 : decode prog_1_method_35_code 5 = .ok (.istore_n 3, 1) := by decide +kernel
theorem d_LogDisk_firstSegment_6 : decode prog_1_method_35_code 6 = .ok (.iload_n 3, 1) := by decide +kernel
theorem d_LogDisk_firstSegment_7 : decode prog_1_method_35_code 7 = .ok (.bipush 16, 2) := by decide +kernel
theorem d_LogDisk_firstSegment_9 : decode prog_1_method_35_code 9 = .ok (.if_icmp .ge 45, 3) := by decide +kernel
theorem d_LogDisk_firstSegment_12 : decode prog_1_method_35_code 12 = .ok (.aload_n 0, 1) := by decide +kernel
theorem d_LogDisk_firstSegment_13 : decode prog_1_method_35_code 13 = .ok (.getfield 11, 3) := by decide +kernel
theorem d_LogDisk_firstSegment_16 : decode prog_1_method_35_code 16 = .ok (.iload_n 3, 1) := by decide +kernel
theorem d_LogDisk_firstSegment_17 : decode prog_1_method_35_code 17 = .ok (.aaload, 1) := by decide +kernel
theorem d_LogDisk_firstSegment_18 : decode prog_1_method_35_code 18 = .ok (.invokevirtual 375, 3) := by decide +kernel
theorem d_LogDisk_firstSegment_21 : decode prog_1_method_35_code 21 = .ok (.istore 4, 2) := by decide +kernel
theorem d_LogDisk_firstSegment_23 : decode prog_1_method_35_code 23 = .ok (.iload 4, 2) := by decide +kernel
theorem d_LogDisk_firstSegment_25 : decode prog_1_method_35_code 25 = .ok (.iload_n 2, 1) := by decide +kernel
theorem d_LogDisk_firstSegment_26 : decode prog_1_method_35_code 26 = .ok (.if_icmp .le 22, 3) := by decide +kernel
theorem d_LogDisk_firstSegment_29 : decode prog_1_method_35_code 29 = .ok (.iload 4, 2) := by decide +kernel
theorem d_LogDisk_firstSegment_31 : decode prog_1_method_35_code 31 = .ok (.aload_n 0, 1) := by decide +kernel
theorem d_LogDisk_firstSegment_32 : decode prog_1_method_35_code 32 = .ok (.getfield 43, 3) := by decide +kernel
theorem d_LogDisk_firstSegment_35 : decode prog_1_method_35_code 35 = .ok (.getfield 161, 3) := by decide +kernel
theorem d_LogDisk_firstSegment_38 : decode prog_1_method_35_code 38 = .ok (.iconst 1, 1) := by decide +kernel
theorem d_LogDisk_firstSegment_39 : decode prog_1_method_35_code 39 = .ok (.iadd, 1) := by decide +kernel
theorem d_LogDisk_firstSegment_40 : decode prog_1_method_35_code 40 = .ok (.if_icmp .gt 8, 3) := by decide +kernel
theorem d_LogDisk_firstSegment_43 : decode prog_1_method_35_code 43 = .ok (.iload_n 3, 1) := by decide +kernel
theorem d_LogDisk_firstSegment_44 : decode prog_1_method_35_code 44 = .ok (.istore_n 1, 1) := by decide +kernel
theorem d_LogDisk_firstSegment_45 : decode prog_1_method_35_code 45 = .ok (.iload 4, 2) := by decide +kernel
theorem d_LogDisk_firstSegment_47 : decode prog_1_method_35_code 47 = .ok (.istore_n 2, 1) := by decide +kernel
theorem d_LogDisk_firstSegment_48 : decode prog_1_method_35_code 48 = .ok (.iinc 3 1, 3) := by decide +kernel
theorem d_LogDisk_firstSegment_51 : decode prog_1_method_35_code 51 = .ok (.goto (-45), 3) := by decide +kernel
theorem d_LogDisk_firstSegment_54 : decode prog_1_method_35_code 54 = .ok (.iload_n 1, 1) := by decide +kernel
theorem d_LogDisk_firstSegment_55 : decode prog_1_method_35_code 55 = .ok (.ireturn, 1) := by decide +kernel
theorem d_LogDisk_segmentBehind_0 : decode prog_1_method_36_code 0 = .ok (.iconst 4, 1) := by decide +kernel
theorem d_LogDisk_segmentBehind_1 : decode prog_1_method_36_code 1 = .ok (.istore_n 3, 1) := by decide +kernel
theorem d_LogDisk_segmentBehind_2 : decode prog_1_method_36_code 2 = .ok (.iload_n 3, 1) := by decide +kernel
theorem d_LogDisk_segmentBehind_3 : decode prog_1_method_36_code 3 = .ok (.bipush 16, 2) := by decide +kernel
theorem d_LogDisk_segmentBehind_5 : decode prog_1_method_36_code 5 = .ok (.if_icmp .ge 39, 3) := by decide +kernel
theorem d_LogDisk_segmentBehind_8 : decode prog_1_method_36_code 8 = .ok (.aload_n 0, 1) := by decide +kernel
theorem d_LogDisk_segmentBehind_9 : decode prog_1_method_36_code 9 = .ok (.getfield 11, 3) := by decide +kernel
theorem d_LogDisk_segmentBehind_12 : decode prog_1_method_36_code 12 = .ok (.iload_n 3, 1) := by decide +kernel
theorem d_LogDisk_segmentBehind_13 : decode prog_1_method_36_code 13 = .ok (.aaload, 1) := by decide +kernel
theorem d_LogDisk_segmentBehind_14 : decode prog_1_method_36_code 14 = .ok (.invokevirtual 375, 3) := by decide +kernel
theorem d_LogDisk_segmentBehind_17 : decode prog_1_method_36_code 17 = .ok (.iload_n 1, 1) := by decide +kernel
theorem d_LogDisk_segmentBehind_18 : decode prog_1_method_36_code 18 = .ok (.iconst 1, 1) := by decide +kernel
theorem d_LogDisk_segmentBehind_19 : decode prog_1_method_36_code 19 = .ok (.iadd, 1) := by decide +kernel
theorem d_LogDisk_segmentBehind_20 : decode prog_1_method_36_code 20 = .ok (.if_icmp .ne 18, 3) := by decide +kernel
theorem d_LogDisk_segmentBehind_23 : decode prog_1_method_36_code 23 = .ok (.aload_n 0, 1) := by decide +kernel
theorem d_LogDisk_segmentBehind_24 : decode prog_1_method_36_code 24 = .ok (.getfield 11, 3) := by decide +kernel
theorem d_LogDisk_segmentBehind_27 : decode prog_1_method_36_code 27 = .ok (.iload_n 3, 1) := by decide +kernel
theorem d_LogDisk_segmentBehind_28 : decode prog_1_method_36_code 28 = .ok (.aaload, 1) := by decide +kernel
theorem d_LogDisk_segmentBehind_29 : decode prog_1_method_36_code 29 = .ok (.invokevirtual 381, 3) := by decide +kernel
theorem d_LogDisk_segmentBehind_32 : decode prog_1_method_36_code 32 = .ok (.iload_n 2, 1) := by decide +kernel
theorem d_LogDisk_segmentBehind_33 : decode prog_1_method_36_code 33 = .ok (.if_icmp .ne 5, 3) := by decide +kernel
theorem d_LogDisk_segmentBehind_36 : decode prog_1_method_36_code 36 = .ok (.iload_n 3, 1) := by decide +kernel
theorem d_LogDisk_segmentBehind_37 : decode prog_1_method_36_code 37 = .ok (.ireturn, 1) := by decide +kernel
theorem d_LogDisk_segmentBehind_38 : decode prog_1_method_36_code 38 = .ok (.iinc 3 1, 3) := by decide +kernel
theorem d_LogDisk_segmentBehind_41 : decode prog_1_method_36_code 41 = .ok (.goto (-39), 3) := by decide +kernel
theorem d_LogDisk_segmentBehind_44 : decode prog_1_method_36_code 44 = .ok (.iconst (-1), 1) := by decide +kernel
theorem d_LogDisk_segmentBehind_45 : decode prog_1_method_36_code 45 = .ok (.ireturn, 1) := by decide +kernel
theorem d_LogDisk_readSegment_0 : decode prog_1_method_37_code 0 = .ok (.aload_n 0, 1) := by decide +kernel
theorem d_LogDisk_readSegment_1 : decode prog_1_method_37_code 1 = .ok (.getfield 11, 3) := by decide +kernel
theorem d_LogDisk_readSegment_4 : decode prog_1_method_37_code 4 = .ok (.iload_n 1, 1) := by decide +kernel
theorem d_LogDisk_readSegment_5 : decode prog_1_method_37_code 5 = .ok (.aaload, 1) := by decide +kernel
theorem d_LogDisk_readSegment_6 : decode prog_1_method_37_code 6 = .ok (.astore_n 2, 1) := by decide +kernel
theorem d_LogDisk_readSegment_7 : decode prog_1_method_37_code 7 = .ok (.aload_n 2, 1) := by decide +kernel
theorem d_LogDisk_readSegment_8 : decode prog_1_method_37_code 8 = .ok (.invokevirtual 375, 3) := by decide +kernel
theorem d_LogDisk_readSegment_11 : decode prog_1_method_37_code 11 = .ok (.iconst 1, 1) := by decide +kernel
theorem d_LogDisk_readSegment_12 : decode prog_1_method_37_code 12 = .ok (.isub, 1) := by decide +kernel
theorem d_LogDisk_readSegment_13 : decode prog_1_method_37_code 13 = .ok (.istore_n 3, 1) := by decide +kernel
theorem d_LogDisk_readSegment_14 : decode prog_1_method_37_code 14 = .ok (.bipush 24, 2) := by decide +kernel
theorem d_LogDisk_readSegment_16 : decode prog_1_method_37_code 16 = .ok (.istore 4, 2) := by decide +kernel
theorem d_LogDisk_readSegment_18 : decode prog_1_method_37_code 18 = .ok (.iconst 0, 1) := by decide +kernel
theorem d_LogDisk_readSegment_19 : decode prog_1_method_37_code 19 = .ok (.istore 5, 2) := by decide +kernel
theorem d_LogDisk_readSegment_21 : decode prog_1_method_37_code 21 = .ok (.iload 5, 2) := by decide +kernel
theorem d_LogDisk_readSegment_23 : decode prog_1_method_37_code 23 = .ok (.sipush 1025, 3) := by decide +kernel
theorem d_LogDisk_readSegment_26 : decode prog_1_method_37_code 26 = .ok (.if_icmp .ge 98, 3) := by decide +kernel
theorem d_LogDisk_readSegment_29 : decode prog_1_method_37_code 29 = .ok (.aload_n 2, 1) := by decide +kernel
theorem d_LogDisk_readSegment_30 : decode prog_1_method_37_code 30 = .ok (.iload 4, 2) := by decide +kernel
theorem d_LogDisk_readSegment_32 : decode prog_1_method_37_code 32 = .ok (.invokevirtual 352, 3) := by decide +kernel
theorem d_LogDisk_readSegment_35 : decode prog_1_method_37_code 35 = .ok (.istore 6, 2) := by decide +kernel
theorem d_LogDisk_readSegment_37 : decode prog_1_method_37_code 37 = .ok (.iload 6, 2) := by decide +kernel
theorem d_LogDisk_readSegment_39 : decode prog_1_method_37_code 39 = .ok (.bipush 17, 2) := by decide +kernel
theorem d_LogDisk_readSegment_41 : decode prog_1_method_37_code 41 = .ok (.if_icmp .ge 6, 3) := by decide +kernel
theorem d_LogDisk_readSegment_44 : decode prog_1_method_37_code 44 = .ok (.goto 80, 3) := by decide +kernel
theorem d_LogDisk_readSegment_47 : decode prog_1_method_37_code 47 = .ok (.iinc 3 1, 3) := by decide +kernel
theorem d_LogDisk_readSegment_50 : decode prog_1_method_37_code 50 = .ok (.iload_n 3, 1) := by decide +kernel
theorem d_LogDisk_readSegment_51 : decode prog_1_method_37_code 51 = .ok (.aload_n 0, 1) := by decide +kernel
theorem d_LogDisk_readSegment_52 : decode prog_1_method_37_code 52 = .ok (.getfield 43, 3) := by decide +kernel
theorem d_LogDisk_readSegment_55 : decode prog_1_method_37_code 55 = .ok (.getfield 161, 3) := by decide +kernel
theorem d_LogDisk_readSegment_58 : decode prog_1_method_37_code 58 = .ok (.if_icmp .lt 50, 3) := by decide +kernel
theorem d_LogDisk_readSegment_61 : decode prog_1_method_37_code 61 = .ok (.aload_n 2, 1) := by decide +kernel
theorem d_LogDisk_readSegment_62 : decode prog_1_method_37_code 62 = .ok (.iload 4, 2) := by decide +kernel
theorem d_LogDisk_readSegment_64 : decode prog_1_method_37_code 64 = .ok (.bipush 8, 2) := by decide +kernel
theorem d_LogDisk_readSegment_66 : decode prog_1_method_37_code 66 = .ok (.iadd, 1) := by decide +kernel
theorem d_LogDisk_readSegment_67 : decode prog_1_method_37_code 67 = .ok (.bipush 8, 2) := by decide +kernel
theorem d_LogDisk_readSegment_69 : decode prog_1_method_37_code 69 = .ok (.iadd, 1) := by decide +kernel
theorem d_LogDisk_readSegment_70 : decode prog_1_method_37_code 70 = .ok (.bipush 8, 2) := by decide +kernel
theorem d_LogDisk_readSegment_72 : decode prog_1_method_37_code 72 = .ok (.invokevirtual 355, 3) := by decide +kernel
theorem d_LogDisk_readSegment_75 : decode prog_1_method_37_code 75 = .ok (.l2i, 1) := by decide +kernel
theorem d_LogDisk_readSegment_76 : decode prog_1_method_37_code 76 = .ok (.istore 7, 2) := by decide +kernel
theorem d_LogDisk_readSegment_78 : decode prog_1_method_37_code 78 = .ok (.aload_n 0, 1) := by decide +kernel
theorem d_LogDisk_readSegment_79 : decode prog_1_method_37_code 79 = .ok (.getfield 57, 3) := by decide +kernel
theorem d_LogDisk_readSegment_82 : decode prog_1_method_37_code 82 = .ok (.iload_n 3, 1) := by decide +kernel
theorem d_LogDisk_readSegment_83 : decode prog_1_method_37_code 83 = .ok (.iload_n 1, 1) := by decide +kernel
theorem d_LogDisk_readSegment_84 : decode prog_1_method_37_code 84 = .ok (.iload 4, 2) := by decide +kernel
theorem d_LogDisk_readSegment_86 : decode prog_1_method_37_code 86 = .ok (.iload 7, 2) := by decide +kernel
theorem d_LogDisk_readSegment_88 : decode prog_1_method_37_code 88 = .ok (.aload_n 2, 1) := by decide +kernel
theorem d_LogDisk_readSegment_89 : decode prog_1_method_37_code 89 = .ok (.iload 4, 2) := by decide +kernel
theorem d_LogDisk_readSegment_91 : decode prog_1_method_37_code 91 = .ok (.bipush 8, 2) := by decide +kernel
theorem d_LogDisk_readSegment_93 : decode prog_1_method_37_code 93 = .ok (.iadd, 1) := by decide +kernel
theorem d_LogDisk_readSegment_94 : decode prog_1_method_37_code 94 = .ok (.bipush 16, 2) := by decide +kernel
theorem d_LogDisk_readSegment_96 : decode prog_1_method_37_code 96 = .ok (.iadd, 1) := by decide +kernel
theorem d_LogDisk_readSegment_97 : decode prog_1_method_37_code 97 = .ok (.invokevirtual 275, 3) := by decide +kernel
theorem d_LogDisk_readSegment_100 : decode prog_1_method_37_code 100 = .ok (.iload 6, 2) := by decide +kernel
theorem d_LogDisk_readSegment_102 : decode prog_1_method_37_code 102 = .ok (.bipush 17, 2) := by decide +kernel
theorem d_LogDisk_readSegment_104 : decode prog_1_method_37_code 104 = .ok (.isub, 1) := by decide +kernel
theorem d_LogDisk_readSegment_105 : decode prog_1_method_37_code 105 = .ok (.invokevirtual 318, 3) := by decide +kernel
theorem d_LogDisk_readSegment_108 : decode prog_1_method_37_code 108 = .ok (.iload 4, 2) := by decide +kernel
theorem d_LogDisk_readSegment_110 : decode prog_1_method_37_code 110 = .ok (.bipush 8, 2) := by decide +kernel
theorem d_LogDisk_readSegment_112 : decode prog_1_method_37_code 112 = .ok (.iload 6, 2) := by decide +kernel
theorem d_LogDisk_readSegment_114 : decode prog_1_method_37_code 114 = .ok (.iadd, 1) := by decide +kernel
theorem d_LogDisk_readSegment_115 : decode prog_1_method_37_code 115 = .ok (.iadd, 1) := by decide +kernel
theorem d_LogDisk_readSegment_116 : decode prog_1_method_37_code 116 = .ok (.istore 4, 2) := by decide +kernel
theorem d_LogDisk_readSegment_118 : decode prog_1_method_37_code 118 = .ok (.iinc 5 1, 3) := by decide +kernel
theorem d_LogDisk_readSegment_121 : decode prog_1_method_37_code 121 = .ok (.goto (-100), 3) := by decide +kernel
theorem d_LogDisk_readSegment_124 : decode prog_1_method_37_code 124 = .ok (.aload_n 2, 1) := by decide +kernel
theorem d_LogDisk_readSegment_125 : decode prog_1_method_37_code 125 = .ok (.iload 4, 2) := by decide +kernel
theorem d_LogDisk_readSegment_127 : decode prog_1_method_37_code 127 = .ok (.invokevirtual 213, 3) := by decide +kernel
theorem d_LogDisk_readSegment_130 : decode prog_1_method_37_code 130 = .ok (.iload_n 3, 1) := by decide +kernel
theorem d_LogDisk_readSegment_131 : decode prog_1_method_37_code 131 = .ok (.ireturn, 1) := by decide +kernel
theorem d_LogDisk_holdsBase_0 : decode prog_1_method_38_code 0 = .ok (.aload_n 0, 1) := by decide +kernel
theorem d_LogDisk_holdsBase_1 : decode prog_1_method_38_code 1 = .ok (.getfield 11, 3) := by decide +kernel
theorem d_LogDisk_holdsBase_4 : decode prog_1_method_38_code 4 = .ok (.iload_n 1, 1) := by decide +kernel
theorem d_LogDisk_holdsBase_5 : decode prog_1_method_38_code 5 = .ok (.aaload, 1) := by decide +kernel
theorem d_LogDisk_holdsBase_6 : decode prog_1_method_38_code 6 = .ok (.invokevirtual 375, 3) := by decide +kernel
theorem d_LogDisk_holdsBase_9 : decode prog_1_method_38_code 9 = .ok (.aload_n 0, 1) := by decide +kernel
theorem d_LogDisk_holdsBase_10 : decode prog_1_method_38_code 10 = .ok (.getfield 43, 3) := by decide +kernel
theorem d_LogDisk_holdsBase_13 : decode prog_1_method_38_code 13 = .ok (.getfield 161, 3) := by decide +kernel
theorem d_LogDisk_holdsBase_16 : decode prog_1_method_38_code 16 = .ok (.iconst 1, 1) := by decide +kernel
theorem d_LogDisk_holdsBase_17 : decode prog_1_method_38_code 17 = .ok (.iadd, 1) := by decide +kernel
theorem d_LogDisk_holdsBase_18 : decode prog_1_method_38_code 18 = .ok (.if_icmp .ne 28, 3) := by decide +kernel
theorem d_LogDisk_holdsBase_21 : decode prog_1_method_38_code 21 = .ok (.aload_n 0, 1) := by decide +kernel
theorem d_LogDisk_holdsBase_22 : decode prog_1_method_38_code 22 = .ok (.getfield 11, 3) := by decide +kernel
theorem d_LogDisk_holdsBase_25 : decode prog_1_method_38_code 25 = .ok (.iload_n 1, 1) := by decide +kernel
theorem d_LogDisk_holdsBase_26 : decode prog_1_method_38_code 26 = .ok (.aaload, 1) := by decide +kernel
theorem d_LogDisk_holdsBase_27 : decode prog_1_method_38_code 27 = .ok (.invokevirtual 381, 3) := by decide +kernel
theorem d_LogDisk_holdsBase_30 : decode prog_1_method_38_code 30 = .ok (.aload_n 0, 1) := by decide +kernel
theorem d_LogDisk_holdsBase_31 : decode prog_1_method_38_code 31 = .ok (.getfield 43, 3) := by decide +kernel
theorem d_LogDisk_holdsBase_34 : decode prog_1_method_38_code 34 = .ok (.getfield 250, 3) := by decide +kernel
theorem d_LogDisk_holdsBase_37 : decode prog_1_method_38_code 37 = .ok (.if_icmp .ne 7, 3) := by decide +kernel
theorem d_LogDisk_holdsBase_40 : decode prog_1_method_38_code 40 = .ok (.iconst 1, 1) := by decide +kernel
theorem d_LogDisk_holdsBase_41 : decode prog_1_method_38_code 41 = .ok (.goto 4, 3) := by decide +kernel
theorem d_LogDisk_holdsBase_44 : decode prog_1_method_38_code 44 = .ok (.iconst 0, 1) := by decide +kernel
theorem d_LogDisk_holdsBase_45 : decode prog_1_method_38_code 45 = .ok (.ireturn, 1) := by decide +kernel
theorem d_LogDisk_holdsBase_46 : decode prog_1_method_38_code 46 = .ok (.iload_n 2, 1) := by decide +kernel
theorem d_LogDisk_holdsBase_47 : decode prog_1_method_38_code 47 = .ok (.aload_n 0, 1) := by decide +kernel
theorem d_LogDisk_holdsBase_48 : decode prog_1_method_38_code 48 = .ok (.getfield 43, 3) := by decide +kernel
theorem d_LogDisk_holdsBase_51 : decode prog_1_method_38_code 51 = .ok (.getfield 161, 3) := by decide +kernel
theorem d_LogDisk_holdsBase_54 : decode prog_1_method_38_code 54 = .ok (.if_icmp .lt 39, 3) := by decide +kernel
theorem d_LogDisk_holdsBase_57 : decode prog_1_method_38_code 57 = .ok (.aload_n 0, 1) := by decide +kernel
theorem d_LogDisk_holdsBase_58 : decode prog_1_method_38_code 58 = .ok (.getfield 57, 3) := by decide +kernel
theorem d_LogDisk_holdsBase_61 : decode prog_1_method_38_code 61 = .ok (.getfield 261, 3) := by decide +kernel
theorem d_LogDisk_holdsBase_64 : decode prog_1_method_38_code 64 = .ok (.aload_n 0, 1) := by decide +kernel
theorem d_LogDisk_holdsBase_65 : decode prog_1_method_38_code 65 = .ok (.getfield 57, 3) := by decide +kernel
theorem d_LogDisk_holdsBase_68 : decode prog_1_method_38_code 68 = .ok (.aload_n 0, 1) := by decide +kernel
theorem d_LogDisk_holdsBase_69 : decode prog_1_method_38_code 69 = .ok (.getfield 43, 3) := by decide +kernel
theorem d_LogDisk_holdsBase_72 : decode prog_1_method_38_code 72 = .ok (.getfield 161, 3) := by decide +kernel
theorem d_LogDisk_holdsBase_75 : decode prog_1_method_38_code 75 = .ok (.invokevirtual 206, 3) := by decide +kernel
theorem d_LogDisk_holdsBase_78 : decode prog_1_method_38_code 78 = .ok (.iaload, 1) := by decide +kernel
theorem d_LogDisk_holdsBase_79 : decode prog_1_method_38_code 79 = .ok (.aload_n 0, 1) := by decide +kernel
theorem d_LogDisk_holdsBase_80 : decode prog_1_method_38_code 80 = .ok (.getfield 43, 3) := by decide +kernel
theorem d_LogDisk_holdsBase_83 : decode prog_1_method_38_code 83 = .ok (.getfield 250, 3) := by decide +kernel
theorem d_LogDisk_holdsBase_86 : decode prog_1_method_38_code 86 = .ok (.if_icmp .ne 7, 3) := by decide +kernel
theorem d_LogDisk_holdsBase_89 : decode prog_1_method_38_code 89 = .ok (.iconst 1, 1) := by decide +kernel
theorem d_LogDisk_holdsBase_90 : decode prog_1_method_38_code 90 = .ok (.goto 4, 3) := by decide +kernel
theorem d_LogDisk_holdsBase_93 : decode prog_1_method_38_code 93 = .ok (.iconst 0, 1) := by decide +kernel
theorem d_LogDisk_holdsBase_94 : decode prog_1_method_38_code 94 = .ok (.ireturn, 1) := by decide +kernel
theorem d_LogDisk_pagesFor_0 : decode prog_1_method_39_code 0 = .ok (.iload_n 0, 1) := by decide +kernel
theorem d_LogDisk_pagesFor_1 : decode prog_1_method_39_code 1 = .ok (.bipush 64, 2) := by decide +kernel
theorem d_LogDisk_pagesFor_3 : decode prog_1_method_39_code 3 = .ok (.iadd, 1) := by decide +kernel
theorem d_LogDisk_pagesFor_4 : decode prog_1_method_39_code 4 = .ok (.iconst 1, 1) := by decide +kernel
theorem d_LogDisk_pagesFor_5 : decode prog_1_method_39_code 5 = .ok (.isub, 1) := by decide +kernel
theorem d_LogDisk_pagesFor_6 : decode prog_1_method_39_code 6 = .ok (.bipush 64, 2) := by decide +kernel
theorem d_LogDisk_pagesFor_8 : decode prog_1_method_39_code 8 = .ok (.idiv, 1) := by decide +kernel
theorem d_LogDisk_pagesFor_9 : decode prog_1_method_39_code 9 = .ok (.ireturn, 1) := by decide +kernel
theorem d_LogDisk_sumStep_0 : decode prog_1_method_40_code 0 = .ok (.iload_n 0, 1) := by decide +kernel
theorem d_LogDisk_sumStep_1 : decode prog_1_method_40_code 1 = .ok (.iload_n 1, 1) := by decide +kernel
theorem d_LogDisk_sumStep_2 : decode prog_1_method_40_code 2 = .ok (.ixor, 1) := by decide +kernel
theorem d_LogDisk_sumStep_3 : decode prog_1_method_40_code 3 = .ok (.istore_n 2, 1) := by decide +kernel
theorem d_LogDisk_sumStep_4 : decode prog_1_method_40_code 4 = .ok (.iload_n 2, 1) := by decide +kernel
theorem d_LogDisk_sumStep_5 : decode prog_1_method_40_code 5 = .ok (.iconst 4, 1) := by decide +kernel
theorem d_LogDisk_sumStep_6 : decode prog_1_method_40_code 6 = .ok (.iushr, 1) := by decide +kernel
theorem d_LogDisk_sumStep_7 : decode prog_1_method_40_code 7 = .ok (.getstatic 384, 3) := by decide +kernel
theorem d_LogDisk_sumStep_10 : decode prog_1_method_40_code 10 = .ok (.iload_n 2, 1) := by decide +kernel
theorem d_LogDisk_sumStep_11 : decode prog_1_method_40_code 11 = .ok (.bipush 15, 2) := by decide +kernel
theorem d_LogDisk_sumStep_13 : decode prog_1_method_40_code 13 = .ok (.iand, 1) := by decide +kernel
theorem d_LogDisk_sumStep_14 : decode prog_1_method_40_code 14 = .ok (.iaload, 1) := by decide +kernel
theorem d_LogDisk_sumStep_15 : decode prog_1_method_40_code 15 = .ok (.ixor, 1) := by decide +kernel
theorem d_LogDisk_sumStep_16 : decode prog_1_method_40_code 16 = .ok (.istore_n 2, 1) := by decide +kernel
theorem d_LogDisk_sumStep_17 : decode prog_1_method_40_code 17 = .ok (.iload_n 2, 1) := by decide +kernel
theorem d_LogDisk_sumStep_18 : decode prog_1_method_40_code 18 = .ok (.iconst 4, 1) := by decide +kernel
theorem d_LogDisk_sumStep_19 : decode prog_1_method_40_code 19 = .ok (.iushr, 1) := by decide +kernel
theorem d_LogDisk_sumStep_20 : decode prog_1_method_40_code 20 = .ok (.getstatic 384, 3) := by decide +kernel
theorem d_LogDisk_sumStep_23 : decode prog_1_method_40_code 23 = .ok (.iload_n 2, 1) := by decide +kernel
theorem d_LogDisk_sumStep_24 : decode prog_1_method_40_code 24 = .ok (.bipush 15, 2) := by decide +kernel
theorem d_LogDisk_sumStep_26 : decode prog_1_method_40_code 26 = .ok (.iand, 1) := by decide +kernel
theorem d_LogDisk_sumStep_27 : decode prog_1_method_40_code 27 = .ok (.iaload, 1) := by decide +kernel
theorem d_LogDisk_sumStep_28 : decode prog_1_method_40_code 28 = .ok (.ixor, 1) := by decide +kernel
theorem d_LogDisk_sumStep_29 : decode prog_1_method_40_code 29 = .ok (.ireturn, 1) := by decide +kernel
end
section
theorem d_Mo_init_0 : decode prog_12_method_1_code 0 = .ok (.aload_n 0, 1) := by decide +kernel
theorem d_Mo_init_1 : decode prog_12_method_1_code 1 = .ok (.invokespecial 1, 3) := by decide +kernel
theorem d_Mo_init_4 : decode prog_12_method_1_code 4 = .ok (.aload_n 0, 1) := by decide +kernel
theorem d_Mo_init_5 : decode prog_12_method_1_code 5 = .ok (.sipush 2200, 3) := by decide +kernel
theorem d_Mo_init_8 : decode prog_12_method_1_code 8 = .ok (.newarray .int, 2) := by decide +kernel
theorem d_Mo_init_10 : decode prog_12_method_1_code 10 = .ok (.putfield 7, 3) := by decide +kernel
theorem d_Mo_init_13 : decode prog_12_method_1_code 13 = .ok (.aload_n 0, 1) := by decide +kernel
theorem d_Mo_init_14 : decode prog_12_method_1_code 14 = .ok (.sipush 2200, 3) := by decide +kernel
theorem d_Mo_init_17 : decode prog_12_method_1_code 17 = .ok (.newarray .int, 2) := by decide +kernel
theorem d_Mo_init_19 : decode prog_12_method_1_code 19 = .ok (.putfield 13, 3) := by decide +kernel
theorem d_Mo_init_22 : decode prog_12_method_1_code 22 = .ok (.aload_n 0, 1) := by decide +kernel
theorem d_Mo_init_23 : decode prog_12_method_1_code 23 = .ok (.sipush 2200, 3) := by decide +kernel
theorem d_Mo_init_26 : decode prog_12_method_1_code 26 = .ok (.newarray .int, 2) := by decide +kernel
theorem d_Mo_init_28 : decode prog_12_method_1_code 28 = .ok (.putfield 16, 3) := by decide +kernel
theorem d_Mo_init_31 : decode prog_12_method_1_code 31 = .ok (.aload_n 0, 1) := by decide +kernel
theorem d_Mo_init_32 : decode prog_12_method_1_code 32 = .ok (.sipush 2200, 3) := by decide +kernel
theorem d_Mo_init_35 : decode prog_12_method_1_code 35 = .ok (.newarray .int, 2) := by decide +kernel
theorem d_Mo_init_37 : decode prog_12_method_1_code 37 = .ok (.putfield 19, 3) := by decide +kernel
theorem d_Mo_init_40 : decode prog_12_method_1_code 40 = .ok (.aload_n 0, 1) := by decide +kernel
theorem d_Mo_init_41 : decode prog_12_method_1_code 41 = .ok (.sipush 2200, 3) := by decide +kernel
theorem d_Mo_init_44 : decode prog_12_method_1_code 44 = .ok (.newarray .int, 2) := by decide +kernel
theorem d_Mo_init_46 : decode prog_12_method_1_code 46 = .ok (.putfield 22, 3) := by decide +kernel
theorem d_Mo_init_49 : decode prog_12_method_1_code 49 = .ok (.aload_n 0, 1) := by decide +kernel
theorem d_Mo_init_50 : decode prog_12_method_1_code 50 = .ok (.sipush 2200, 3) := by decide +kernel
theorem d_Mo_init_53 : decode prog_12_method_1_code 53 = .ok (.newarray .int, 2) := by decide +kernel
theorem d_Mo_init_55 : decode prog_12_method_1_code 55 = .ok (.putfield 25, 3) := by decide +kernel
theorem d_Mo_init_58 : decode prog_12_method_1_code 58 = .ok (.aload_n 0, 1) := by decide +kernel
theorem d_Mo_init_59 : decode prog_12_method_1_code 59 = .ok (.sipush 4200, 3) := by decide +kernel
theorem d_Mo_init_62 : decode prog_12_method_1_code 62 = .ok (.newarray .int, 2) := by decide +kernel
theorem d_Mo_init_64 : decode prog_12_method_1_code 64 = .ok (.putfield 28, 3) := by decide +kernel
theorem d_Mo_init_67 : decode prog_12_method_1_code 67 = .ok (.aload_n 0, 1) := by decide +kernel
theorem d_Mo_init_68 : decode prog_12_method_1_code 68 = .ok (.sipush 10560, 3) := by decide +kernel
theorem d_Mo_init_71 : decode prog_12_method_1_code 71 = .ok (.newarray .int, 2) := by decide +kernel
theorem d_Mo_init_73 : decode prog_12_method_1_code 73 = .ok (.putfield 31, 3) := by decide +kernel
theorem d_Mo_init_76 : decode prog_12_method_1_code 76 = .ok (.aload_n 0, 1) := by decide +kernel
theorem d_Mo_init_77 : decode prog_12_method_1_code 77 = .ok (.bipush 32, 2) := by decide +kernel
theorem d_Mo_init_79 : decode prog_12_method_1_code 79 = .ok (.newarray .int, 2) := by decide +kernel
theorem d_Mo_init_81 : decode prog_12_method_1_code 81 = .ok (.putfield 34, 3) := by decide +kernel
theorem d_Mo_init_84 : decode prog_12_method_1_code 84 = .ok (.aload_n 0, 1) := by decide +kernel
theorem d_Mo_init_85 : decode prog_12_method_1_code 85 = .ok (.bipush 32, 2) := by decide +kernel
theorem d_Mo_init_87 : decode prog_12_method_1_code 87 = .ok (.newarray .int, 2) := by decide +kernel
theorem d_Mo_init_89 : decode prog_12_method_1_code 89 = .ok (.putfield 37, 3) := by decide +kernel
theorem d_Mo_init_92 : decode prog_12_method_1_code 92 = .ok (.aload_n 0, 1) := by decide +kernel
theorem d_Mo_init_93 : decode prog_12_method_1_code 93 = .ok (.bipush 32, 2) := by decide +kernel
theorem d_Mo_init_95 : decode prog_12_method_1_code 95 = .ok (.newarray .boolean, 2) := by decide +kernel
theorem d_Mo_init_97 : decode prog_12_method_1_code 97 = .ok (.putfield 40, 3) := by decide +kernel
theorem d_Mo_init_100 : decode prog_12_method_1_code 100 = .ok (.aload_n 0, 1) := by decide +kernel
theorem d_Mo_init_101 : decode prog_12_method_1_code 101 = .ok (.bipush 16, 2) := by decide +kernel
theorem d_Mo_init_103 : decode prog_12_method_1_code 103 = .ok (.newarray .int, 2) := by decide +kernel
theorem d_Mo_init_105 : decode prog_12_method_1_code 105 = .ok (.putfield 44, 3) := by decide +kernel
theorem d_Mo_init_108 : decode prog_12_method_1_code 108 = .ok (.aload_n 0, 1) := by decide +kernel
theorem d_Mo_init_109 : decode prog_12_method_1_code 109 = .ok (.bipush 16, 2) := by decide +kernel
theorem d_Mo_init_111 : decode prog_12_method_1_code 111 = .ok (.newarray .int, 2) := by decide +kernel
theorem d_Mo_init_113 : decode prog_12_method_1_code 113 = .ok (.putfield 47, 3) := by decide +kernel
theorem d_Mo_init_116 : decode prog_12_method_1_code 116 = .ok (.aload_n 0, 1) := by decide +kernel
theorem d_Mo_init_117 : decode prog_12_method_1_code 117 = .ok (.bipush 16, 2) := by decide +kernel
theorem d_Mo_init_119 : decode prog_12_method_1_code 119 = .ok (.newarray .int, 2) := by decide +kernel
theorem d_Mo_init_121 : decode prog_12_method_1_code 121 = .ok (.putfield 50, 3) := by decide +kernel
theorem d_Mo_init_124 : decode prog_12_method_1_code 124 = .ok (.aload_n 0, 1) := by decide +kernel
theorem d_Mo_init_125 : decode prog_12_method_1_code 125 = .ok (.iconst (-1), 1) := by decide +kernel
theorem d_Mo_init_126 : decode prog_12_method_1_code 126 = .ok (.putfield 53, 3) := by decide +kernel
theorem d_Mo_init_129 : decode prog_12_method_1_code 129 = .ok (.aload_n 0, 1) := by decide +kernel
theorem d_Mo_init_130 : decode prog_12_method_1_code 130 = .ok (.bipush 12, 2) := by decide +kernel
theorem d_Mo_init_132 : decode prog_12_method_1_code 132 = .ok (.newarray .int, 2) := by decide +kernel
theorem d_Mo_init_134 : decode prog_12_method_1_code 134 = .ok (.putfield 57, 3) := by decide +kernel
theorem d_Mo_init_137 : decode prog_12_method_1_code 137 = .ok (.aload_n 0, 1) := by decide +kernel
theorem d_Mo_init_138 : decode prog_12_method_1_code 138 = .ok (.sipush 301, 3) := by decide +kernel
theorem d_Mo_init_141 : decode prog_12_method_1_code 141 = .ok (.newarray .int, 2) := by decide +kernel
theorem d_Mo_init_143 : decode prog_12_method_1_code 143 = .ok (.putfield 60, 3) := by decide +kernel
theorem d_Mo_init_146 : decode prog_12_method_1_code 146 = .ok (.aload_n 0, 1) := by decide +kernel
theorem d_Mo_init_147 : decode prog_12_method_1_code 147 = .ok (.sipush 4096, 3) := by decide +kernel
theorem d_Mo_init_150 : decode prog_12_method_1_code 150 = .ok (.newarray .int, 2) := by decide +kernel
theorem d_Mo_init_152 : decode prog_12_method_1_code 152 = .ok (.putfield 63, 3) := by decide +kernel
theorem d_Mo_init_155 : decode prog_12_method_1_code 155 = .ok (.aload_n 0, 1) := by decide +kernel
theorem d_Mo_init_156 : decode prog_12_method_1_code 156 = .ok (.iload_n 1, 1) := by decide +kernel
theorem d_Mo_init_157 : decode prog_12_method_1_code 157 = .ok (.bipush 8, 2) := by decide +kernel
theorem d_Mo_init_159 : decode prog_12_method_1_code 159 = .ok (.if_icmp .ge 8, 3) := by decide +kernel
theorem d_Mo_init_162 : decode prog_12_method_1_code 162 = .ok (.bipush 8, 2) := by decide +kernel
theorem d_Mo_init_164 : decode prog_12_method_1_code 164 = .ok (.goto 17, 3) := by decide +kernel
theorem d_Mo_init_167 : decode prog_12_method_1_code 167 = .ok (.iload_n 1, 1) := by decide +kernel
theorem d_Mo_init_168 : decode prog_12_method_1_code 168 = .ok (.sipush 1024, 3) := by decide +kernel
theorem d_Mo_init_171 : decode prog_12_method_1_code 171 = .ok (.if_icmp .le 9, 3) := by decide +kernel
theorem d_Mo_init_174 : decode prog_12_method_1_code 174 = .ok (.sipush 1024, 3) := by decide +kernel
theorem d_Mo_init_177 : decode prog_12_method_1_code 177 = .ok (.goto 4, 3) := by decide +kernel
theorem d_Mo_init_180 : decode prog_12_method_1_code 180 = .ok (.iload_n 1, 1) := by decide +kernel
theorem d_Mo_init_181 : decode prog_12_method_1_code 181 = .ok (.putfield 66, 3) := by decide +kernel
theorem d_Mo_init_184 : decode prog_12_method_1_code 184 = .ok (.aload_n 0, 1) := by decide +kernel
theorem d_Mo_init_185 : decode prog_12_method_1_code 185 = .ok (.iload_n 2, 1) := by decide +kernel
theorem d_Mo_init_186 : decode prog_12_method_1_code 186 = .ok (.putfield 69, 3) := by decide +kernel
theorem d_Mo_init_189 : decode prog_12_method_1_code 189 = .ok (.aload_n 0, 1) := by decide +kernel
theorem d_Mo_init_190 : decode prog_12_method_1_code 190 = .ok (.iload_n 2, 1) := by decide +kernel
theorem d_Mo_init_191 : decode prog_12_method_1_code 191 = .ok (.putfield 72, 3) := by decide +kernel
theorem d_Mo_init_194 : decode prog_12_method_1_code 194 = .ok (.aload_n 0, 1) := by decide +kernel
theorem d_Mo_init_195 : decode prog_12_method_1_code 195 = .ok (.iconst (-1), 1) := by decide +kernel
theorem d_Mo_init_196 : decode prog_12_method_1_code 196 = .ok (.putfield 75, 3) := by decide +kernel
theorem d_Mo_init_199 : decode prog_12_method_1_code 199 = .ok (.iconst 0, 1) := by decide +kernel
theorem d_Mo_init_200 : decode prog_12_method_1_code 200 = .ok (.istore_n 3, 1) := by decide +kernel
theorem d_Mo_init_201 : decode prog_12_method_1_code 201 = .ok (.iload_n 3, 1) := by decide +kernel
theorem d_Mo_init_202 : decode prog_12_method_1_code 202 = .ok (.bipush 16, 2) := by decide +kernel
theorem d_Mo_init_204 : decode prog_12_method_1_code 204 = .ok (.if_icmp .ge 16, 3) := by decide +kernel
theorem d_Mo_init_207 : decode prog_12_method_1_code 207 = .ok (.aload_n 0, 1) := by decide +kernel
theorem d_Mo_init_208 : decode prog_12_method_1_code 208 = .ok (.getfield 50, 3) := by decide +kernel
theorem d_Mo_init_211 : decode prog_12_method_1_code 211 = .ok (.iload_n 3, 1) := by decide +kernel
theorem d_Mo_init_212 : decode prog_12_method_1_code 212 = .ok (.iconst (-1), 1) := by decide +kernel
theorem d_Mo_init_213 : decode prog_12_method_1_code 213 = .ok (.iastore, 1) := by decide +kernel
theorem d_Mo_init_214 : decode prog_12_method_1_code 214 = .ok (.iinc 3 1, 3) := by decide +kernel
theorem d_Mo_init_217 : decode prog_12_method_1_code 217 = .ok (.goto (-16), 3) := by decide +kernel
theorem d_Mo_init_220 : decode prog_12_method_1_code 220 = .ok (.return_, 1) := by decide +kernel
theorem d_Mo_thrown_0 : decode prog_12_method_2_code 0 = .ok (.aload_n 0, 1) := by decide +kernel
theorem d_Mo_thrown_1 : decode prog_12_method_2_code 1 = .ok (.getfield 78, 3) := by decide +kernel
theorem d_Mo_thrown_4 : decode prog_12_method_2_code 4 = .ok (.ireturn, 1) := by decide +kernel
theorem d_Mo_fail_0 : decode prog_12_method_3_code 0 = .ok (.aload_n 0, 1) := by decide +kernel
theorem d_Mo_fail_1 : decode prog_12_method_3_code 1 = .ok (.iload_n 1, 1) := by decide +kernel
theorem d_Mo_fail_2 : decode prog_12_method_3_code 2 = .ok (.putfield 78, 3) := by decide +kernel
theorem d_Mo_fail_5 : decode prog_12_method_3_code 5 = .ok (.iconst 0, 1) := by decide +kernel
theorem d_Mo_fail_6 : decode prog_12_method_3_code 6 = .ok (.ireturn, 1) := by decide +kernel
theorem d_Mo_within_0 : decode prog_12_method_4_code 0 = .ok (.iload_n 0, 1) := by decide +kernel
theorem d_Mo_within_1 : decode prog_12_method_4_code 1 = .ok (.iload_n 1, 1) := by decide +kernel
theorem d_Mo_within_2 : decode prog_12_method_4_code 2 = .ok (.if_icmp .lt 12, 3) := by decide +kernel
theorem d_Mo_within_5 : decode prog_12_method_4_code 5 = .ok (.iload_n 0, 1) := by decide +kernel
theorem d_Mo_within_6 : decode prog_12_method_4_code 6 = .ok (.iload_n 2, 1) := by decide +kernel
theorem d_Mo_within_7 : decode prog_12_method_4_code 7 = .ok (.if_icmp .gt 7, 3) := by decide +kernel
theorem d_Mo_within_10 : decode prog_12_method_4_code 10 = .ok (.iconst 1, 1) := by decide +kernel
theorem d_Mo_within_11 : decode prog_12_method_4_code 11 = .ok (.goto 4, 3) := by decide +kernel
theorem d_Mo_within_14 : decode prog_12_method_4_code 14 = .ok (.iconst 0, 1) := by decide +kernel
theorem d_Mo_within_15 : decode prog_12_method_4_code 15 = .ok (.ireturn, 1) := by decide +kernel
theorem d_Mo_make_0 : decode prog_12_method_5_code 0 = .ok (.aload_n 0, 1) := by decide +kernel
theorem d_Mo_make_1 : decode prog_12_method_5_code 1 = .ok (.getfield 81, 3) := by decide +kernel
theorem d_Mo_make_4 : decode prog_12_method_5_code 4 = .ok (.istore 5, 2) := by decide +kernel
theorem d_Mo_make_6 : decode prog_12_method_5_code 6 = .ok (.aload_n 0, 1) := by decide +kernel
theorem d_Mo_make_7 : decode prog_12_method_5_code 7 = .ok (.getfield 7, 3) := by decide +kernel
theorem d_Mo_make_10 : decode prog_12_method_5_code 10 = .ok (.iload 5, 2) := by decide +kernel
theorem d_Mo_make_12 : decode prog_12_method_5_code 12 = .ok (.iload_n 1, 1) := by decide +kernel
theorem d_Mo_make_13 : decode prog_12_method_5_code 13 = .ok (.iastore, 1) := by decide +kernel
theorem d_Mo_make_14 : decode prog_12_method_5_code 14 = .ok (.aload_n 0, 1) := by decide +kernel
theorem d_Mo_make_15 : decode prog_12_method_5_code 15 = .ok (.getfield 13, 3) := by decide +kernel
theorem d_Mo_make_18 : decode prog_12_method_5_code 18 = .ok (.iload 5, 2) := by decide +kernel
theorem d_Mo_make_20 : decode prog_12_method_5_code 20 = .ok (.iload_n 2, 1) := by decide +kernel
theorem d_Mo_make_21 : decode prog_12_method_5_code 21 = .ok (.iastore, 1) := by decide +kernel
theorem d_Mo_make_22 : decode prog_12_method_5_code 22 = .ok (.aload_n 0, 1) := by decide +kernel
theorem d_Mo_make_23 : decode prog_12_method_5_code 23 = .ok (.getfield 16, 3) := by decide +kernel
theorem d_Mo_make_26 : decode prog_12_method_5_code 26 = .ok (.iload 5, 2) := by decide +kernel
theorem d_Mo_make_28 : decode prog_12_method_5_code 28 = .ok (.iload_n 3, 1) := by decide +kernel
theorem d_Mo_make_29 : decode prog_12_method_5_code 29 = .ok (.iastore, 1) := by decide +kernel
theorem d_Mo_make_30 : decode prog_12_method_5_code 30 = .ok (.aload_n 0, 1) := by decide +kernel
theorem d_Mo_make_31 : decode prog_12_method_5_code 31 = .ok (.getfield 19, 3) := by decide +kernel
theorem d_Mo_make_34 : decode prog_12_method_5_code 34 = .ok (.iload 5, 2) := by decide +kernel
theorem d_Mo_make_36 : decode prog_12_method_5_code 36 = .ok (.iload 4, 2) := by decide +kernel
theorem d_Mo_make_38 : decode prog_12_method_5_code 38 = .ok (.iastore, 1) := by decide +kernel
theorem d_Mo_make_39 : decode prog_12_method_5_code 39 = .ok (.aload_n 0, 1) := by decide +kernel
theorem d_Mo_make_40 : decode prog_12_method_5_code 40 = .ok (.getfield 22, 3) := by decide +kernel
theorem d_Mo_make_43 : decode prog_12_method_5_code 43 = .ok (.iload 5, 2) := by decide +kernel
theorem d_Mo_make_45 : decode prog_12_method_5_code 45 = .ok (.aload_n 0, 1) := by decide +kernel
theorem d_Mo_make_46 : decode prog_12_method_5_code 46 = .ok (.getfield 84, 3) := by decide +kernel
theorem d_Mo_make_49 : decode prog_12_method_5_code 49 = .ok (.iastore, 1) := by decide +kernel
theorem d_Mo_make_50 : decode prog_12_method_5_code 50 = .ok (.aload_n 0, 1) := by decide +kernel
theorem d_Mo_make_51 : decode prog_12_method_5_code 51 = .ok (.getfield 25, 3) := by decide +kernel
theorem d_Mo_make_54 : decode prog_12_method_5_code 54 = .ok (.iload 5, 2) := by decide +kernel
theorem d_Mo_make_56 : decode prog_12_method_5_code 56 = .ok (.iconst 0, 1) := by decide +kernel
theorem d_Mo_make_57 : decode prog_12_method_5_code 57 = .ok (.iastore, 1) := by decide +kernel
theorem d_Mo_make_58 : decode prog_12_method_5_code 58 = .ok (.aload_n 0, 1) := by decide +kernel
theorem d_Mo_make_59 : decode prog_12_method_5_code 59 = .ok (.dup, 1) := by decide +kernel
theorem d_Mo_make_60 : decode prog_12_method_5_code 60 = .ok (.getfield 81, 3) := by decide +kernel
theorem d_Mo_make_63 : decode prog_12_method_5_code 63 = .ok (.iconst 1, 1) := by decide +kernel
theorem d_Mo_make_64 : decode prog_12_method_5_code 64 = .ok (.iadd, 1) := by decide +kernel
theorem d_Mo_make_65 : decode prog_12_method_5_code 65 = .ok (.putfield 81, 3) := by decide +kernel
theorem d_Mo_make_68 : decode prog_12_method_5_code 68 = .ok (.iload 5, 2) := by decide +kernel
theorem d_Mo_make_70 : decode prog_12_method_5_code 70 = .ok (.ireturn, 1) := by decide +kernel
theorem d_Mo_fill_0 : decode prog_12_method_6_code 0 = .ok (.aload_n 0, 1) := by decide +kernel
theorem d_Mo_fill_1 : decode prog_12_method_6_code 1 = .ok (.getfield 25, 3) := by decide +kernel
theorem d_Mo_fill_4 : decode prog_12_method_6_code 4 = .ok (.iload_n 1, 1) := by decide +kernel
theorem d_Mo_fill_5 : decode prog_12_method_6_code 5 = .ok (.iload_n 2, 1) := by decide +kernel
theorem d_Mo_fill_6 : decode prog_12_method_6_code 6 = .ok (.iastore, 1) := by decide +kernel
theorem d_Mo_fill_7 : decode prog_12_method_6_code 7 = .ok (.iconst 0, 1) := by decide +kernel
theorem d_Mo_fill_8 : decode prog_12_method_6_code 8 = .ok (.istore_n 3, 1) := by decide +kernel
theorem d_Mo_fill_9 : decode prog_12_method_6_code 9 = .ok (.iload_n 3, 1) := by decide +kernel
theorem d_Mo_fill_10 : decode prog_12_method_6_code 10 = .ok (.iload_n 2, 1) := by decide +kernel
theorem d_Mo_fill_11 : decode prog_12_method_6_code 11 = .ok (.if_icmp .ge 26, 3) := by decide +kernel
theorem d_Mo_fill_14 : decode prog_12_method_6_code 14 = .ok (.aload_n 0, 1) := by decide +kernel
theorem d_Mo_fill_15 : decode prog_12_method_6_code 15 = .ok (.getfield 28, 3) := by decide +kernel
theorem d_Mo_fill_18 : decode prog_12_method_6_code 18 = .ok (.aload_n 0, 1) := by decide +kernel
theorem d_Mo_fill_19 : decode prog_12_method_6_code 19 = .ok (.getfield 84, 3) := by decide +kernel
theorem d_Mo_fill_22 : decode prog_12_method_6_code 22 = .ok (.iload_n 3, 1) := by decide +kernel
theorem d_Mo_fill_23 : decode prog_12_method_6_code 23 = .ok (.iadd, 1) := by decide +kernel
theorem d_Mo_fill_24 : decode prog_12_method_6_code 24 = .ok (.aload_n 0, 1) := by decide +kernel
theorem d_Mo_fill_25 : decode prog_12_method_6_code 25 = .ok (.getfield 63, 3) := by decide +kernel
theorem d_Mo_fill_28 : decode prog_12_method_6_code 28 = .ok (.iload_n 3, 1) := by decide +kernel
theorem d_Mo_fill_29 : decode prog_12_method_6_code 29 = .ok (.iaload, 1) := by decide +kernel
theorem d_Mo_fill_30 : decode prog_12_method_6_code 30 = .ok (.iastore, 1) := by decide +kernel
theorem d_Mo_fill_31 : decode prog_12_method_6_code 31 = .ok (.iinc 3 1, 3) := by decide +kernel
theorem d_Mo_fill_34 : decode prog_12_method_6_code 34 = .ok (.goto (-25), 3) := by decide +kernel
theorem d_Mo_fill_37 : decode prog_12_method_6_code 37 = .ok (.aload_n 0, 1) := by decide +kernel
theorem d_Mo_fill_38 : decode prog_12_method_6_code 38 = .ok (.dup, 1) := by decide +kernel
theorem d_Mo_fill_39 : decode prog_12_method_6_code 39 = .ok (.getfield 84, 3) := by decide +kernel
theorem d_Mo_fill_42 : decode prog_12_method_6_code 42 = .ok (.iload_n 2, 1) := by decide +kernel
theorem d_Mo_fill_43 : decode prog_12_method_6_code 43 = .ok (.iadd, 1) := by decide +kernel
theorem d_Mo_fill_44 : decode prog_12_method_6_code 44 = .ok (.putfield 84, 3) := by decide +kernel
theorem d_Mo_fill_47 : decode prog_12_method_6_code 47 = .ok (.return_, 1) := by decide +kernel
theorem d_Mo_payload_0 : decode prog_12_method_7_code 0 = .ok (.aload_n 0, 1) := by decide +kernel
theorem d_Mo_payload_1 : decode prog_12_method_7_code 1 = .ok (.getfield 7, 3) := by decide +kernel
theorem d_Mo_payload_4 : decode prog_12_method_7_code 4 = .ok (.iload_n 1, 1) := by decide +kernel
theorem d_Mo_payload_5 : decode prog_12_method_7_code 5 = .ok (.iaload, 1) := by decide +kernel
theorem d_Mo_payload_6 : decode prog_12_method_7_code 6 = .ok (.ifCond .ne 8, 3) := by decide +kernel
theorem d_Mo_payload_9 : decode prog_12_method_7_code 9 = .ok (.bipush 24, 2) := by decide +kernel
theorem d_Mo_payload_11 : decode prog_12_method_7_code 11 = .ok (.goto 42, 3) := by decide +kernel
theorem d_Mo_payload_14 : decode prog_12_method_7_code 14 = .ok (.aload_n 0, 1) := by decide +kernel
theorem d_Mo_payload_15 : decode prog_12_method_7_code 15 = .ok (.getfield 7, 3) := by decide +kernel
theorem d_Mo_payload_18 : decode prog_12_method_7_code 18 = .ok (.iload_n 1, 1) := by decide +kernel
theorem d_Mo_payload_19 : decode prog_12_method_7_code 19 = .ok (.iaload, 1) := by decide +kernel
theorem d_Mo_payload_20 : decode prog_12_method_7_code 20 = .ok (.iconst 1, 1) := by decide +kernel
theorem d_Mo_payload_21 : decode prog_12_method_7_code 21 = .ok (.if_icmp .ne 8, 3) := by decide +kernel
theorem d_Mo_payload_24 : decode prog_12_method_7_code 24 = .ok (.bipush 12, 2) := by decide +kernel
theorem d_Mo_payload_26 : decode prog_12_method_7_code 26 = .ok (.goto 27, 3) := by decide +kernel
theorem d_Mo_payload_29 : decode prog_12_method_7_code 29 = .ok (.aload_n 0, 1) := by decide +kernel
theorem d_Mo_payload_30 : decode prog_12_method_7_code 30 = .ok (.getfield 7, 3) := by decide +kernel
theorem d_Mo_payload_33 : decode prog_12_method_7_code 33 = .ok (.iload_n 1, 1) := by decide +kernel
theorem d_Mo_payload_34 : decode prog_12_method_7_code 34 = .ok (.iaload, 1) := by decide +kernel
theorem d_Mo_payload_35 : decode prog_12_method_7_code 35 = .ok (.iconst 2, 1) := by decide +kernel
theorem d_Mo_payload_36 : decode prog_12_method_7_code 36 = .ok (.if_icmp .ne 8, 3) := by decide +kernel
theorem d_Mo_payload_39 : decode prog_12_method_7_code 39 = .ok (.bipush 16, 2) := by decide +kernel
theorem d_Mo_payload_41 : decode prog_12_method_7_code 41 = .ok (.goto 12, 3) := by decide +kernel
theorem d_Mo_payload_44 : decode prog_12_method_7_code 44 = .ok (.bipush 17, 2) := by decide +kernel
theorem d_Mo_payload_46 : decode prog_12_method_7_code 46 = .ok (.aload_n 0, 1) := by decide +kernel
theorem d_Mo_payload_47 : decode prog_12_method_7_code 47 = .ok (.getfield 25, 3) := by decide +kernel
theorem d_Mo_payload_50 : decode prog_12_method_7_code 50 = .ok (.iload_n 1, 1) := by decide +kernel
theorem d_Mo_payload_51 : decode prog_12_method_7_code 51 = .ok (.iaload, 1) := by decide +kernel
theorem d_Mo_payload_52 : decode prog_12_method_7_code 52 = .ok (.iadd, 1) := by decide +kernel
theorem d_Mo_payload_53 : decode prog_12_method_7_code 53 = .ok (.ireturn, 1) := by decide +kernel
theorem d_Mo_space_0 : decode prog_12_method_8_code 0 = .ok (.bipush 8, 2) := by decide +kernel
theorem d_Mo_space_2 : decode prog_12_method_8_code 2 = .ok (.aload_n 0, 1) := by decide +kernel
theorem d_Mo_space_3 : decode prog_12_method_8_code 3 = .ok (.iload_n 1, 1) := by decide +kernel
theorem d_Mo_space_4 : decode prog_12_method_8_code 4 = .ok (.invokevirtual 87, 3) := by decide +kernel
theorem d_Mo_space_7 : decode prog_12_method_8_code 7 = .ok (.iadd, 1) := by decide +kernel
theorem d_Mo_space_8 : decode prog_12_method_8_code 8 = .ok (.aload_n 0, 1) := by decide +kernel
theorem d_Mo_space_9 : decode prog_12_method_8_code 9 = .ok (.getfield 7, 3) := by decide +kernel
theorem d_Mo_space_12 : decode prog_12_method_8_code 12 = .ok (.iload_n 1, 1) := by decide +kernel
theorem d_Mo_space_13 : decode prog_12_method_8_code 13 = .ok (.iaload, 1) := by decide +kernel
theorem d_Mo_space_14 : decode prog_12_method_8_code 14 = .ok (.iconst 1, 1) := by decide +kernel
theorem d_Mo_space_15 : decode prog_12_method_8_code 15 = .ok (.if_icmp .ne 12, 3) := by decide +kernel
theorem d_Mo_space_18 : decode prog_12_method_8_code 18 = .ok (.aload_n 0, 1) := by decide +kernel
theorem d_Mo_space_19 : decode prog_12_method_8_code 19 = .ok (.getfield 25, 3) := by decide +kernel
theorem d_Mo_space_22 : decode prog_12_method_8_code 22 = .ok (.iload_n 1, 1) := by decide +kernel
theorem d_Mo_space_23 : decode prog_12_method_8_code 23 = .ok (.iaload, 1) := by decide +kernel
theorem d_Mo_space_24 : decode prog_12_method_8_code 24 = .ok (.goto 4, 3) := by decide +kernel
theorem d_Mo_space_27 : decode prog_12_method_8_code 27 = .ok (.iconst 0, 1) := by decide +kernel
theorem d_Mo_space_28 : decode prog_12_method_8_code 28 = .ok (.iadd, 1) := by decide +kernel
theorem d_Mo_space_29 : decode prog_12_method_8_code 29 = .ok (.ireturn, 1) := by decide +kernel
theorem d_Mo_byteOf_0 : decode prog_12_method_9_code 0 = .ok (.lload_n 0, 1) := by decide +kernel
theorem d_Mo_byteOf_1 : decode prog_12_method_9_code 1 = .ok (.bipush 8, 2) := by decide +kernel
theorem d_Mo_byteOf_3 : decode prog_12_method_9_code 3 = .ok (.iload_n 2, 1) := by decide +kernel
theorem d_Mo_byteOf_4 : decode prog_12_method_9_code 4 = .ok (.imul, 1) := by decide +kernel
theorem d_Mo_byteOf_5 : decode prog_12_method_9_code 5 = .ok (.lshr, 1) := by decide +kernel
theorem d_Mo_byteOf_6 : decode prog_12_method_9_code 6 = .ok (.ldc2_w 91, 3) := by decide +kernel
theorem d_Mo_byteOf_9 : decode prog_12_method_9_code 9 = .ok (.land, 1) := by decide +kernel
theorem d_Mo_byteOf_10 : decode prog_12_method_9_code 10 = .ok (.l2i, 1) := by decide +kernel
theorem d_Mo_byteOf_11 : decode prog_12_method_9_code 11 = .ok (.ireturn, 1) := by decide +kernel
theorem d_Mo_payloadAt_0 : decode prog_12_method_10_code 0 = .ok (.aload_n 0, 1) := by decide +kernel
theorem d_Mo_payloadAt_1 : decode prog_12_method_10_code 1 = .ok (.getfield 7, 3) := by decide +kernel
theorem d_Mo_payloadAt_4 : decode prog_12_method_10_code 4 = .ok (.iload_n 1, 1) := by decide +kernel
theorem d_Mo_payloadAt_5 : decode prog_12_method_10_code 5 = .ok (.iaload, 1) := by decide +kernel
theorem d_Mo_payloadAt_6 : decode prog_12_method_10_code 6 = .ok (.iconst 1, 1) := by decide +kernel
theorem d_Mo_payloadAt_7 : decode prog_12_method_10_code 7 = .ok (.if_icmp .ne 48, 3) := by decide +kernel
theorem d_Mo_payloadAt_10 : decode prog_12_method_10_code 10 = .ok (.iload_n 2, 1) := by decide +kernel
theorem d_Mo_payloadAt_11 : decode prog_12_method_10_code 11 = .ok (.iconst 4, 1) := by decide +kernel
theorem d_Mo_payloadAt_12 : decode prog_12_method_10_code 12 = .ok (.if_icmp .ge 13, 3) := by decide +kernel
theorem d_Mo_payloadAt_15 : decode prog_12_method_10_code 15 = .ok (.aload_n 0, 1) := by decide +kernel
theorem d_Mo_payloadAt_16 : decode prog_12_method_10_code 16 = .ok (.getfield 13, 3) := by decide +kernel
theorem d_Mo_payloadAt_19 : decode prog_12_method_10_code 19 = .ok (.iload_n 1, 1) := by decide +kernel
theorem d_Mo_payloadAt_20 : decode prog_12_method_10_code 20 = .ok (.iaload, 1) := by decide +kernel
theorem d_Mo_payloadAt_21 : decode prog_12_method_10_code 21 = .ok (.i2l, 1) := by decide +kernel
theorem d_Mo_payloadAt_22 : decode prog_12_method_10_code 22 = .ok (.goto 26, 3) := by decide +kernel
theorem d_Mo_payloadAt_25 : decode prog_12_method_10_code 25 = .ok (.iload_n 2, 1) := by decide +kernel
theorem d_Mo_payloadAt_26 : decode prog_12_method_10_code 26 = .ok (.bipush 8, 2) := by decide +kernel
theorem d_Mo_payloadAt_28 : decode prog_12_method_10_code 28 = .ok (.if_icmp .ge 13, 3) := by decide +kernel
theorem d_Mo_payloadAt_31 : decode prog_12_method_10_code 31 = .ok (.aload_n 0, 1) := by decide +kernel
theorem d_Mo_payloadAt_32 : decode prog_12_method_10_code 32 = .ok (.getfield 16, 3) := by decide +kernel
theorem d_Mo_payloadAt_35 : decode prog_12_method_10_code 35 = .ok (.iload_n 1, 1) := by decide +kernel
theorem d_Mo_payloadAt_36 : decode prog_12_method_10_code 36 = .ok (.iaload, 1) := by decide +kernel
theorem d_Mo_payloadAt_37 : decode prog_12_method_10_code 37 = .ok (.i2l, 1) := by decide +kernel
theorem d_Mo_payloadAt_38 : decode prog_12_method_10_code 38 = .ok (.goto 10, 3) := by decide +kernel
theorem d_Mo_payloadAt_41 : decode prog_12_method_10_code 41 = .ok (.aload_n 0, 1) := by decide +kernel
theorem d_Mo_payloadAt_42 : decode prog_12_method_10_code 42 = .ok (.getfield 19, 3) := by decide +kernel
theorem d_Mo_payloadAt_45 : decode prog_12_method_10_code 45 = .ok (.iload_n 1, 1) := by decide +kernel
theorem d_Mo_payloadAt_46 : decode prog_12_method_10_code 46 = .ok (.iaload, 1) := by decide +kernel
theorem d_Mo_payloadAt_47 : decode prog_12_method_10_code 47 = .ok (.i2l, 1) := by decide +kernel
theorem d_Mo_payloadAt_48 : decode prog_12_method_10_code 48 = .ok (.iload_n 2, 1) := by decide +kernel
theorem d_Mo_payloadAt_49 : decode prog_12_method_10_code 49 = .ok (.iconst 4, 1) := by decide +kernel
theorem d_Mo_payloadAt_50 : decode prog_12_method_10_code 50 = .ok (.irem, 1) := by decide +kernel
theorem d_Mo_payloadAt_51 : decode prog_12_method_10_code 51 = .ok (.invokestatic 93, 3) := by decide +kernel
theorem d_Mo_payloadAt_54 : decode prog_12_method_10_code 54 = .ok (.ireturn, 1) := by decide +kernel
theorem d_Mo_payloadAt_55 : decode prog_12_method_10_code 55 = .ok (.aload_n 0, 1) := by decide +kernel
theorem d_Mo_payloadAt_56 : decode prog_12_method_10_code 56 = .ok (.getfield 7, 3) := by decide +kernel
theorem d_Mo_payloadAt_59 : decode prog_12_method_10_code 59 = .ok (.iload_n 1, 1) := by decide +kernel
theorem d_Mo_payloadAt_60 : decode prog_12_method_10_code 60 = .ok (.iaload, 1) := by decide +kernel
theorem d_Mo_payloadAt_61 : decode prog_12_method_10_code 61 = .ok (.iconst 3, 1) := by decide +kernel
theorem d_Mo_payloadAt_62 : decode prog_12_method_10_code 62 = .ok (.if_icmp .ne 41, 3) := by decide +kernel
theorem d_Mo_payloadAt_65 : decode prog_12_method_10_code 65 = .ok (.iload_n 2, 1) := by decide +kernel
theorem d_Mo_payloadAt_66 : decode prog_12_method_10_code 66 = .ok (.bipush 15, 2) := by decide +kernel
theorem d_Mo_payloadAt_68 : decode prog_12_method_10_code 68 = .ok (.if_icmp .le 35, 3) := by decide +kernel
theorem d_Mo_payloadAt_71 : decode prog_12_method_10_code 71 = .ok (.iload_n 2, 1) := by decide +kernel
theorem d_Mo_payloadAt_72 : decode prog_12_method_10_code 72 = .ok (.bipush 16, 2) := by decide +kernel
theorem d_Mo_payloadAt_74 : decode prog_12_method_10_code 74 = .ok (.if_icmp .ne 12, 3) := by decide +kernel
theorem d_Mo_payloadAt_77 : decode prog_12_method_10_code 77 = .ok (.aload_n 0, 1) := by decide +kernel
theorem d_Mo_payloadAt_78 : decode prog_12_method_10_code 78 = .ok (.getfield 19, 3) := by decide +kernel
theorem d_Mo_payloadAt_81 : decode prog_12_method_10_code 81 = .ok (.iload_n 1, 1) := by decide +kernel
theorem d_Mo_payloadAt_82 : decode prog_12_method_10_code 82 = .ok (.iaload, 1) := by decide +kernel
theorem d_Mo_payloadAt_83 : decode prog_12_method_10_code 83 = .ok (.goto 19, 3) := by decide +kernel
theorem d_Mo_payloadAt_86 : decode prog_12_method_10_code 86 = .ok (.aload_n 0, 1) := by decide +kernel
theorem d_Mo_payloadAt_87 : decode prog_12_method_10_code 87 = .ok (.getfield 28, 3) := by decide +kernel
theorem d_Mo_payloadAt_90 : decode prog_12_method_10_code 90 = .ok (.aload_n 0, 1) := by decide +kernel
theorem d_Mo_payloadAt_91 : decode prog_12_method_10_code 91 = .ok (.getfield 22, 3) := by decide +kernel
theorem d_Mo_payloadAt_94 : decode prog_12_method_10_code 94 = .ok (.iload_n 1, 1) := by decide +kernel
theorem d_Mo_payloadAt_95 : decode prog_12_method_10_code 95 = .ok (.iaload, 1) := by decide +kernel
theorem d_Mo_payloadAt_96 : decode prog_12_method_10_code 96 = .ok (.iload_n 2, 1) := by decide +kernel
theorem d_Mo_payloadAt_97 : decode prog_12_method_10_code 97 = .ok (.iadd, 1) := by decide +kernel
theorem d_Mo_payloadAt_98 : decode prog_12_method_10_code 98 = .ok (.bipush 17, 2) := by decide +kernel
theorem d_Mo_payloadAt_100 : decode prog_12_method_10_code 100 = .ok (.isub, 1) := by decide +kernel
theorem d_Mo_payloadAt_101 : decode prog_12_method_10_code 101 = .ok (.iaload, 1) := by decide +kernel
theorem d_Mo_payloadAt_102 : decode prog_12_method_10_code 102 = .ok (.ireturn, 1) := by decide +kernel
theorem d_Mo_payloadAt_103 : decode prog_12_method_10_code 103 = .ok (.iload_n 2, 1) := by decide +kernel
theorem d_Mo_payloadAt_104 : decode prog_12_method_10_code 104 = .ok (.bipush 8, 2) := by decide +kernel
theorem d_Mo_payloadAt_106 : decode prog_12_method_10_code 106 = .ok (.if_icmp .ge 13, 3) := by decide +kernel
theorem d_Mo_payloadAt_109 : decode prog_12_method_10_code 109 = .ok (.aload_n 0, 1) := by decide +kernel
theorem d_Mo_payloadAt_110 : decode prog_12_method_10_code 110 = .ok (.getfield 13, 3) := by decide +kernel
theorem d_Mo_payloadAt_113 : decode prog_12_method_10_code 113 = .ok (.iload_n 1, 1) := by decide +kernel
theorem d_Mo_payloadAt_114 : decode prog_12_method_10_code 114 = .ok (.iaload, 1) := by decide +kernel
theorem d_Mo_payloadAt_115 : decode prog_12_method_10_code 115 = .ok (.i2l, 1) := by decide +kernel
theorem d_Mo_payloadAt_116 : decode prog_12_method_10_code 116 = .ok (.goto 26, 3) := by decide +kernel
theorem d_Mo_payloadAt_119 : decode prog_12_method_10_code 119 = .ok (.iload_n 2, 1) := by decide +kernel
theorem d_Mo_payloadAt_120 : decode prog_12_method_10_code 120 = .ok (.bipush 16, 2) := by decide +kernel
theorem d_Mo_payloadAt_122 : decode prog_12_method_10_code 122 = .ok (.if_icmp .ge 13, 3) := by decide +kernel
theorem d_Mo_payloadAt_125 : decode prog_12_method_10_code 125 = .ok (.aload_n 0, 1) := by decide +kernel
theorem d_Mo_payloadAt_126 : decode prog_12_method_10_code 126 = .ok (.getfield 16, 3) := by decide +kernel
theorem d_Mo_payloadAt_129 : decode prog_12_method_10_code 129 = .ok (.iload_n 1, 1) := by decide +kernel
theorem d_Mo_payloadAt_130 : decode prog_12_method_10_code 130 = .ok (.iaload, 1) := by decide +kernel
theorem d_Mo_payloadAt_131 : decode prog_12_method_10_code 131 = .ok (.i2l, 1) := by decide +kernel
theorem d_Mo_payloadAt_132 : decode prog_12_method_10_code 132 = .ok (.goto 10, 3) := by decide +kernel
theorem d_Mo_payloadAt_135 : decode prog_12_method_10_code 135 = .ok (.aload_n 0, 1) := by decide +kernel
theorem d_Mo_payloadAt_136 : decode prog_12_method_10_code 136 = .ok (.getfield 19, 3) := by decide +kernel
theorem d_Mo_payloadAt_139 : decode prog_12_method_10_code 139 = .ok (.iload_n 1, 1) := by decide +kernel
theorem d_Mo_payloadAt_140 : decode prog_12_method_10_code 140 = .ok (.iaload, 1) := by decide +kernel
theorem d_Mo_payloadAt_141 : decode prog_12_method_10_code 141 = .ok (.i2l, 1) := by decide +kernel
theorem d_Mo_payloadAt_142 : decode prog_12_method_10_code 142 = .ok (.iload_n 2, 1) := by decide +kernel
theorem d_Mo_payloadAt_143 : decode prog_12_method_10_code 143 = .ok (.bipush 8, 2) := by decide +kernel
theorem d_Mo_payloadAt_145 : decode prog_12_method_10_code 145 = .ok (.irem, 1) := by decide +kernel
theorem d_Mo_payloadAt_146 : decode prog_12_method_10_code 146 = .ok (.invokestatic 93, 3) := by decide +kernel
theorem d_Mo_payloadAt_149 : decode prog_12_method_10_code 149 = .ok (.ireturn, 1) := by decide +kernel
theorem d_Mo_sumOf_0 : decode prog_12_method_11_code 0 = .ok (.iconst (-1), 1) := by decide +kernel
theorem d_Mo_sumOf_1 : decode prog_12_method_11_code 1 = .ok (.istore_n 2, 1) := by decide +kernel
theorem d_Mo_sumOf_2 : decode prog_12_method_11_code 2 = .ok (.iconst 0, 1) := by decide +kernel
theorem d_Mo_sumOf_3 : decode prog_12_method_11_code 3 = .ok (.istore_n 3, 1) := by decide +kernel
theorem d_Mo_sumOf_4 : decode prog_12_method_11_code 4 = .ok (.iload_n 3, 1) := by decide +kernel
theorem d_Mo_sumOf_5 : decode prog_12_method_11_code 5 = .ok (.aload_n 0, 1) := by decide +kernel
theorem d_Mo_sumOf_6 : decode prog_12_method_11_code 6 = .ok (.iload_n 1, 1) := by decide +kernel
theorem d_Mo_sumOf_7 : decode prog_12_method_11_code 7 = .ok (.invokevirtual 87, 3) := by decide +kernel
theorem d_Mo_sumOf_10 : decode prog_12_method_11_code 10 = .ok (.if_icmp .ge 54, 3) := by decide +kernel
theorem d_Mo_sumOf_13 : decode prog_12_method_11_code 13 = .ok (.iload_n 2, 1) := by decide +kernel
theorem d_Mo_sumOf_14 : decode prog_12_method_11_code 14 = .ok (.aload_n 0, 1) := by decide +kernel
theorem d_Mo_sumOf_15 : decode prog_12_method_11_code 15 = .ok (.iload_n 1, 1) := by decide +kernel
theorem d_Mo_sumOf_16 : decode prog_12_method_11_code 16 = .ok (.iload_n 3, 1) := by decide +kernel
theorem d_Mo_sumOf_17 : decode prog_12_method_11_code 17 = .ok (.invokevirtual 97, 3) := by decide +kernel
theorem d_Mo_sumOf_20 : decode prog_12_method_11_code 20 = .ok (.ixor, 1) := by decide +kernel
theorem d_Mo_sumOf_21 : decode prog_12_method_11_code 21 = .ok (.istore_n 2, 1) := by decide +kernel
theorem d_Mo_sumOf_22 : decode prog_12_method_11_code 22 = .ok (.iconst 0, 1) := by decide +kernel
theorem d_Mo_sumOf_23 : decode prog_12_method_11_code 23 = .ok (.istore 4, 2) := by decide +kernel
theorem d_Mo_sumOf_25 : decode prog_12_method_11_code 25 = .ok (.iload 4, 2) := by decide +kernel
theorem d_Mo_sumOf_27 : decode prog_12_method_11_code 27 = .ok (.bipush 8, 2) := by decide +kernel
theorem d_Mo_sumOf_29 : decode prog_12_method_11_code 29 = .ok (.if_icmp .ge 29, 3) := by decide +kernel
theorem d_Mo_sumOf_32 : decode prog_12_method_11_code 32 = .ok (.iload_n 2, 1) := by decide +kernel
theorem d_Mo_sumOf_33 : decode prog_12_method_11_code 33 = .ok (.iconst 1, 1) := by decide +kernel
theorem d_Mo_sumOf_34 : decode prog_12_method_11_code 34 = .ok (.iand, 1) := by decide +kernel
theorem d_Mo_sumOf_35 : decode prog_12_method_11_code 35 = .ok (.iconst 1, 1) := by decide +kernel
theorem d_Mo_sumOf_36 : decode prog_12_method_11_code 36 = .ok (.if_icmp .ne 12, 3) := by decide +kernel
theorem d_Mo_sumOf_39 : decode prog_12_method_11_code 39 = .ok (.iload_n 2, 1) := by decide +kernel
theorem d_Mo_sumOf_40 : decode prog_12_method_11_code 40 = .ok (.iconst 1, 1) := by decide +kernel
theorem d_Mo_sumOf_41 : decode prog_12_method_11_code 41 = .ok (.iushr, 1) := by decide +kernel
theorem d_Mo_sumOf_42 : decode prog_12_method_11_code 42 = .ok (.ldc 101, 2) := by decide +kernel
theorem d_Mo_sumOf_44 : decode prog_12_method_11_code 44 = .ok (.ixor, 1) := by decide +kernel
theorem d_Mo_sumOf_45 : decode prog_12_method_11_code 45 = .ok (.goto 6, 3) := by decide +kernel
theorem d_Mo_sumOf_48 : decode prog_12_method_11_code 48 = .ok (.iload_n 2, 1) := by decide +kernel
theorem d_Mo_sumOf_49 : decode prog_12_method_11_code 49 = .ok (.iconst 1, 1) := by decide +kernel
theorem d_Mo_sumOf_50 : decode prog_12_method_11_code 50 = .ok (.iushr, 1) := by decide +kernel
theorem d_Mo_sumOf_51 : decode prog_12_method_11_code 51 = .ok (.istore_n 2, 1) := by decide +kernel
theorem d_Mo_sumOf_52 : decode prog_12_method_11_code 52 = .ok (.iinc 4 1, 3) := by decide +kernel
theorem d_Mo_sumOf_55 : decode prog_12_method_11_code 55 = .ok (.goto (-30), 3) := by decide +kernel
theorem d_Mo_sumOf_58 : decode prog_12_method_11_code 58 = .ok (.iinc 3 1, 3) := by decide +kernel
theorem d_Mo_sumOf_61 : decode prog_12_method_11_code 61 = .ok (.goto (-57), 3) := by decide +kernel
theorem d_Mo_sumOf_64 : decode prog_12_method_11_code 64 = .ok (.iload_n 2, 1) := by decide +kernel
theorem d_Mo_sumOf_65 : decode prog_12_method_11_code 65 = .ok (.iconst (-1), 1) := by decide +kernel
theorem d_Mo_sumOf_66 : decode prog_12_method_11_code 66 = .ok (.ixor, 1) := by decide +kernel
theorem d_Mo_sumOf_67 : decode prog_12_method_11_code 67 = .ok (.ireturn, 1) := by decide +kernel
theorem d_Mo_frameAt_0 : decode prog_12_method_12_code 0 = .ok (.iload_n 2, 1) := by decide +kernel
theorem d_Mo_frameAt_1 : decode prog_12_method_12_code 1 = .ok (.bipush 8, 2) := by decide +kernel
theorem d_Mo_frameAt_3 : decode prog_12_method_12_code 3 = .ok (.if_icmp .ge 34, 3) := by decide +kernel
theorem d_Mo_frameAt_6 : decode prog_12_method_12_code 6 = .ok (.iload_n 2, 1) := by decide +kernel
theorem d_Mo_frameAt_7 : decode prog_12_method_12_code 7 = .ok (.iconst 4, 1) := by decide +kernel
theorem d_Mo_frameAt_8 : decode prog_12_method_12_code 8 = .ok (.if_icmp .ge 16, 3) := by decide +kernel
theorem d_Mo_frameAt_11 : decode prog_12_method_12_code 11 = .ok (.aload_n 0, 1) := by decide +kernel
theorem d_Mo_frameAt_12 : decode prog_12_method_12_code 12 = .ok (.iload_n 1, 1) := by decide +kernel
theorem d_Mo_frameAt_13 : decode prog_12_method_12_code 13 = .ok (.invokevirtual 87, 3) := by decide +kernel
theorem d_Mo_frameAt_16 : decode prog_12_method_12_code 16 = .ok (.i2l, 1) := by decide +kernel
theorem d_Mo_frameAt_17 : decode prog_12_method_12_code 17 = .ok (.iload_n 2, 1) := by decide +kernel
theorem d_Mo_frameAt_18 : decode prog_12_method_12_code 18 = .ok (.invokestatic 93, 3) := by decide +kernel
theorem d_Mo_frameAt_21 : decode prog_12_method_12_code 21 = .ok (.goto 15, 3) := by decide +kernel
theorem d_Mo_frameAt_24 : decode prog_12_method_12_code 24 = .ok (.aload_n 0, 1) := by decide +kernel
theorem d_Mo_frameAt_25 : decode prog_12_method_12_code 25 = .ok (.iload_n 1, 1) := by decide +kernel
theorem d_Mo_frameAt_26 : decode prog_12_method_12_code 26 = .ok (.invokevirtual 102, 3) := by decide +kernel
theorem d_Mo_frameAt_29 : decode prog_12_method_12_code 29 = .ok (.i2l, 1) := by decide +kernel
theorem d_Mo_frameAt_30 : decode prog_12_method_12_code 30 = .ok (.iload_n 2, 1) := by decide +kernel
theorem d_Mo_frameAt_31 : decode prog_12_method_12_code 31 = .ok (.iconst 4, 1) := by decide +kernel
theorem d_Mo_frameAt_32 : decode prog_12_method_12_code 32 = .ok (.isub, 1) := by decide +kernel
theorem d_Mo_frameAt_33 : decode prog_12_method_12_code 33 = .ok (.invokestatic 93, 3) := by decide +kernel
theorem d_Mo_frameAt_36 : decode prog_12_method_12_code 36 = .ok (.ireturn, 1) := by decide +kernel
theorem d_Mo_frameAt_37 : decode prog_12_method_12_code 37 = .ok (.iload_n 2, 1) := by decide +kernel
theorem d_Mo_frameAt_38 : decode prog_12_method_12_code 38 = .ok (.bipush 8, 2) := by decide +kernel
theorem d_Mo_frameAt_40 : decode prog_12_method_12_code 40 = .ok (.isub, 1) := by decide +kernel
theorem d_Mo_frameAt_41 : decode prog_12_method_12_code 41 = .ok (.aload_n 0, 1) := by decide +kernel
theorem d_Mo_frameAt_42 : decode prog_12_method_12_code 42 = .ok (.iload_n 1, 1) := by decide +kernel
theorem d_Mo_frameAt_43 : decode prog_12_method_12_code 43 = .ok (.invokevirtual 87, 3) := by decide +kernel
theorem d_Mo_frameAt_46 : decode prog_12_method_12_code 46 = .ok (.if_icmp .ge 15, 3) := by decide +kernel
theorem d_Mo_frameAt_49 : decode prog_12_method_12_code 49 = .ok (.aload_n 0, 1) := by decide +kernel
theorem d_Mo_frameAt_50 : decode prog_12_method_12_code 50 = .ok (.iload_n 1, 1) := by decide +kernel
theorem d_Mo_frameAt_51 : decode prog_12_method_12_code 51 = .ok (.iload_n 2, 1) := by decide +kernel
theorem d_Mo_frameAt_52 : decode prog_12_method_12_code 52 = .ok (.bipush 8, 2) := by decide +kernel
theorem d_Mo_frameAt_54 : decode prog_12_method_12_code 54 = .ok (.isub, 1) := by decide +kernel
theorem d_Mo_frameAt_55 : decode prog_12_method_12_code 55 = .ok (.invokevirtual 97, 3) := by decide +kernel
theorem d_Mo_frameAt_58 : decode prog_12_method_12_code 58 = .ok (.goto 25, 3) := by decide +kernel
theorem d_Mo_frameAt_61 : decode prog_12_method_12_code 61 = .ok (.aload_n 0, 1) := by decide +kernel
theorem d_Mo_frameAt_62 : decode prog_12_method_12_code 62 = .ok (.getfield 28, 3) := by decide +kernel
theorem d_Mo_frameAt_65 : decode prog_12_method_12_code 65 = .ok (.aload_n 0, 1) := by decide +kernel
theorem d_Mo_frameAt_66 : decode prog_12_method_12_code 66 = .ok (.getfield 22, 3) := by decide +kernel
theorem d_Mo_frameAt_69 : decode prog_12_method_12_code 69 = .ok (.iload_n 1, 1) := by decide +kernel
theorem d_Mo_frameAt_70 : decode prog_12_method_12_code 70 = .ok (.iaload, 1) := by decide +kernel
theorem d_Mo_frameAt_71 : decode prog_12_method_12_code 71 = .ok (.iload_n 2, 1) := by decide +kernel
theorem d_Mo_frameAt_72 : decode prog_12_method_12_code 72 = .ok (.iadd, 1) := by decide +kernel
theorem d_Mo_frameAt_73 : decode prog_12_method_12_code 73 = .ok (.bipush 8, 2) := by decide +kernel
theorem d_Mo_frameAt_75 : decode prog_12_method_12_code 75 = .ok (.isub, 1) := by decide +kernel
theorem d_Mo_frameAt_76 : decode prog_12_method_12_code 76 = .ok (.aload_n 0, 1) := by decide +kernel
theorem d_Mo_frameAt_77 : decode prog_12_method_12_code 77 = .ok (.iload_n 1, 1) := by decide +kernel
theorem d_Mo_frameAt_78 : decode prog_12_method_12_code 78 = .ok (.invokevirtual 87, 3) := by decide +kernel
theorem d_Mo_frameAt_81 : decode prog_12_method_12_code 81 = .ok (.isub, 1) := by decide +kernel
theorem d_Mo_frameAt_82 : decode prog_12_method_12_code 82 = .ok (.iaload, 1) := by decide +kernel
theorem d_Mo_frameAt_83 : decode prog_12_method_12_code 83 = .ok (.ireturn, 1) := by decide +kernel
theorem d_Mo_pages_0 : decode prog_12_method_13_code 0 = .ok (.iload_n 0, 1) := by decide +kernel
theorem d_Mo_pages_1 : decode prog_12_method_13_code 1 = .ok (.bipush 64, 2) := by decide +kernel
theorem d_Mo_pages_3 : decode prog_12_method_13_code 3 = .ok (.iadd, 1) := by decide +kernel
theorem d_Mo_pages_4 : decode prog_12_method_13_code 4 = .ok (.iconst 1, 1) := by decide +kernel
theorem d_Mo_pages_5 : decode prog_12_method_13_code 5 = .ok (.isub, 1) := by decide +kernel
theorem d_Mo_pages_6 : decode prog_12_method_13_code 6 = .ok (.bipush 64, 2) := by decide +kernel
theorem d_Mo_pages_8 : decode prog_12_method_13_code 8 = .ok (.idiv, 1) := by decide +kernel
theorem d_Mo_pages_9 : decode prog_12_method_13_code 9 = .ok (.ireturn, 1) := by decide +kernel
theorem d_Mo_pagesUsed_0 : decode prog_12_method_14_code 0 = .ok (.iconst 0, 1) := by decide +kernel
theorem d_Mo_pagesUsed_1 : decode prog_12_method_14_code 1 = .ok (.istore_n 1, 1) := by decide +kernel
theorem d_Mo_pagesUsed_2 : decode prog_12_method_14_code 2 = .ok (.iconst 0, 1) := by decide +kernel
theorem d_Mo_pagesUsed_3 : decode prog_12_method_14_code 3 = .ok (.istore_n 2, 1) := by decide +kernel
theorem d_Mo_pagesUsed_4 : decode prog_12_method_14_code 4 = .ok (.iload_n 2, 1) := by decide +kernel
theorem d_Mo_pagesUsed_5 : decode prog_12_method_14_code 5 = .ok (.bipush 16, 2) := by decide +kernel
theorem d_Mo_pagesUsed_7 : decode prog_12_method_14_code 7 = .ok (.if_icmp .ge 41, 3) := by decide +kernel
theorem d_Mo_pagesUsed_10 : decode prog_12_method_14_code 10 = .ok (.iload_n 1, 1) := by decide +kernel
theorem d_Mo_pagesUsed_11 : decode prog_12_method_14_code 11 = .ok (.aload_n 0, 1) := by decide +kernel
theorem d_Mo_pagesUsed_12 : decode prog_12_method_14_code 12 = .ok (.getfield 37, 3) := by decide +kernel
theorem d_Mo_pagesUsed_15 : decode prog_12_method_14_code 15 = .ok (.iload_n 2, 1) := by decide +kernel
theorem d_Mo_pagesUsed_16 : decode prog_12_method_14_code 16 = .ok (.iaload, 1) := by decide +kernel
theorem d_Mo_pagesUsed_17 : decode prog_12_method_14_code 17 = .ok (.invokestatic 105, 3) := by decide +kernel
theorem d_Mo_pagesUsed_20 : decode prog_12_method_14_code 20 = .ok (.aload_n 0, 1) := by decide +kernel
theorem d_Mo_pagesUsed_21 : decode prog_12_method_14_code 21 = .ok (.getfield 37, 3) := by decide +kernel
theorem d_Mo_pagesUsed_24 : decode prog_12_method_14_code 24 = .ok (.bipush 16, 2) := by decide +kernel
theorem d_Mo_pagesUsed_26 : decode prog_12_method_14_code 26 = .ok (.iload_n 2, 1) := by decide +kernel
theorem d_Mo_pagesUsed_27 : decode prog_12_method_14_code 27 = .ok (.iadd, 1) := by decide +kernel
theorem d_Mo_pagesUsed_28 : decode prog_12_method_14_code 28 = .ok (.iaload, 1) := by decide +kernel
theorem d_Mo_pagesUsed_29 : decode prog_12_method_14_code 29 = .ok (.invokestatic 105, 3) := by decide +kernel
theorem d_Mo_pagesUsed_32 : decode prog_12_method_14_code 32 = .ok (.iadd, 1) := by decide +kernel
theorem d_Mo_pagesUsed_33 : decode prog_12_method_14_code 33 = .ok (.aload_n 0, 1) := by decide +kernel
theorem d_Mo_pagesUsed_34 : decode prog_12_method_14_code 34 = .ok (.getfield 47, 3) := by decide +kernel
theorem d_Mo_pagesUsed_37 : decode prog_12_method_14_code 37 = .ok (.iload_n 2, 1) := by decide +kernel
theorem d_Mo_pagesUsed_38 : decode prog_12_method_14_code 38 = .ok (.iaload, 1) := by decide +kernel
theorem d_Mo_pagesUsed_39 : decode prog_12_method_14_code 39 = .ok (.isub, 1) := by decide +kernel
theorem d_Mo_pagesUsed_40 : decode prog_12_method_14_code 40 = .ok (.iadd, 1) := by decide +kernel
theorem d_Mo_pagesUsed_41 : decode prog_12_method_14_code 41 = .ok (.istore_n 1, 1) := by decide +kernel
theorem d_Mo_pagesUsed_42 : decode prog_12_method_14_code 42 = .ok (.iinc 2 1, 3) := by decide +kernel
theorem d_Mo_pagesUsed_45 : decode prog_12_method_14_code 45 = .ok (.goto (-41), 3) := by decide +kernel
theorem d_Mo_pagesUsed_48 : decode prog_12_method_14_code 48 = .ok (.iload_n 1, 1) := by decide +kernel
theorem d_Mo_pagesUsed_49 : decode prog_12_method_14_code 49 = .ok (.ireturn, 1) := by decide +kernel
theorem d_Mo_needed_0 : decode prog_12_method_15_code 0 = .ok (.aload_n 0, 1) := by decide +kernel
theorem d_Mo_needed_1 : decode prog_12_method_15_code 1 = .ok (.getfield 37, 3) := by decide +kernel
theorem d_Mo_needed_4 : decode prog_12_method_15_code 4 = .ok (.iload_n 1, 1) := by decide +kernel
theorem d_Mo_needed_5 : decode prog_12_method_15_code 5 = .ok (.iaload, 1) := by decide +kernel
theorem d_Mo_needed_6 : decode prog_12_method_15_code 6 = .ok (.bipush 64, 2) := by decide +kernel
theorem d_Mo_needed_8 : decode prog_12_method_15_code 8 = .ok (.irem, 1) := by decide +kernel
theorem d_Mo_needed_9 : decode prog_12_method_15_code 9 = .ok (.ifCond .eq 25, 3) := by decide +kernel
theorem d_Mo_needed_12 : decode prog_12_method_15_code 12 = .ok (.aload_n 0, 1) := by decide +kernel
theorem d_Mo_needed_13 : decode prog_12_method_15_code 13 = .ok (.getfield 37, 3) := by decide +kernel
theorem d_Mo_needed_16 : decode prog_12_method_15_code 16 = .ok (.iload_n 1, 1) := by decide +kernel
theorem d_Mo_needed_17 : decode prog_12_method_15_code 17 = .ok (.iaload, 1) := by decide +kernel
theorem d_Mo_needed_18 : decode prog_12_method_15_code 18 = .ok (.bipush 64, 2) := by decide +kernel
theorem d_Mo_needed_20 : decode prog_12_method_15_code 20 = .ok (.idiv, 1) := by decide +kernel
theorem d_Mo_needed_21 : decode prog_12_method_15_code 21 = .ok (.aload_n 0, 1) := by decide +kernel
theorem d_Mo_needed_22 : decode prog_12_method_15_code 22 = .ok (.getfield 47, 3) := by decide +kernel
theorem d_Mo_needed_25 : decode prog_12_method_15_code 25 = .ok (.iload_n 1, 1) := by decide +kernel
theorem d_Mo_needed_26 : decode prog_12_method_15_code 26 = .ok (.iaload, 1) := by decide +kernel
theorem d_Mo_needed_27 : decode prog_12_method_15_code 27 = .ok (.if_icmp .ge 7, 3) := by decide +kernel
theorem d_Mo_needed_30 : decode prog_12_method_15_code 30 = .ok (.iconst 1, 1) := by decide +kernel
theorem d_Mo_needed_31 : decode prog_12_method_15_code 31 = .ok (.goto 4, 3) := by decide +kernel
theorem d_Mo_needed_34 : decode prog_12_method_15_code 34 = .ok (.iconst 0, 1) := by decide +kernel
theorem d_Mo_needed_35 : decode prog_12_method_15_code 35 = .ok (.istore_n 3, 1) := by decide +kernel
theorem d_Mo_needed_36 : decode prog_12_method_15_code 36 = .ok (.aload_n 0, 1) := by decide +kernel
theorem d_Mo_needed_37 : decode prog_12_method_15_code 37 = .ok (.getfield 37, 3) := by decide +kernel
theorem d_Mo_needed_40 : decode prog_12_method_15_code 40 = .ok (.iload_n 1, 1) := by decide +kernel
theorem d_Mo_needed_41 : decode prog_12_method_15_code 41 = .ok (.iaload, 1) := by decide +kernel
theorem d_Mo_needed_42 : decode prog_12_method_15_code 42 = .ok (.iload_n 2, 1) := by decide +kernel
theorem d_Mo_needed_43 : decode prog_12_method_15_code 43 = .ok (.iadd, 1) := by decide +kernel
theorem d_Mo_needed_44 : decode prog_12_method_15_code 44 = .ok (.invokestatic 105, 3) := by decide +kernel
theorem d_Mo_needed_47 : decode prog_12_method_15_code 47 = .ok (.aload_n 0, 1) := by decide +kernel
theorem d_Mo_needed_48 : decode prog_12_method_15_code 48 = .ok (.getfield 37, 3) := by decide +kernel
theorem d_Mo_needed_51 : decode prog_12_method_15_code 51 = .ok (.iload_n 1, 1) := by decide +kernel
theorem d_Mo_needed_52 : decode prog_12_method_15_code 52 = .ok (.iaload, 1) := by decide +kernel
theorem d_Mo_needed_53 : decode prog_12_method_15_code 53 = .ok (.invokestatic 105, 3) := by decide +kernel
theorem d_Mo_needed_56 : decode prog_12_method_15_code 56 = .ok (.isub, 1) := by decide +kernel
theorem d_Mo_needed_57 : decode prog_12_method_15_code 57 = .ok (.iload_n 3, 1) := by decide +kernel
theorem d_Mo_needed_58 : decode prog_12_method_15_code 58 = .ok (.ifCond .eq 7, 3) := by decide +kernel
theorem d_Mo_needed_61 : decode prog_12_method_15_code 61 = .ok (.iconst 1, 1) := by decide +kernel
theorem d_Mo_needed_62 : decode prog_12_method_15_code 62 = .ok (.goto 4, 3) := by decide +kernel
theorem d_Mo_needed_65 : decode prog_12_method_15_code 65 = .ok (.iconst 0, 1) := by decide +kernel
theorem d_Mo_needed_66 : decode prog_12_method_15_code 66 = .ok (.iadd, 1) := by decide +kernel
theorem d_Mo_needed_67 : decode prog_12_method_15_code 67 = .ok (.ireturn, 1) := by decide +kernel
theorem d_Mo_hasRoom_0 : decode prog_12_method_16_code 0 = .ok (.aload_n 0, 1) := by decide +kernel
theorem d_Mo_hasRoom_1 : decode prog_12_method_16_code 1 = .ok (.getfield 37, 3) := by decide +kernel
theorem d_Mo_hasRoom_4 : decode prog_12_method_16_code 4 = .ok (.iload_n 1, 1) := by decide +kernel
theorem d_Mo_hasRoom_5 : decode prog_12_method_16_code 5 = .ok (.iaload, 1) := by decide +kernel
theorem d_Mo_hasRoom_6 : decode prog_12_method_16_code 6 = .ok (.iload_n 2, 1) := by decide +kernel
theorem d_Mo_hasRoom_7 : decode prog_12_method_16_code 7 = .ok (.iadd, 1) := by decide +kernel
theorem d_Mo_hasRoom_8 : decode prog_12_method_16_code 8 = .ok (.invokestatic 105, 3) := by decide +kernel
theorem d_Mo_hasRoom_11 : decode prog_12_method_16_code 11 = .ok (.sipush 400, 3) := by decide +kernel
theorem d_Mo_hasRoom_14 : decode prog_12_method_16_code 14 = .ok (.if_icmp .gt 25, 3) := by decide +kernel
theorem d_Mo_hasRoom_17 : decode prog_12_method_16_code 17 = .ok (.aload_n 0, 1) := by decide +kernel
theorem d_Mo_hasRoom_18 : decode prog_12_method_16_code 18 = .ok (.iload_n 1, 1) := by decide +kernel
theorem d_Mo_hasRoom_19 : decode prog_12_method_16_code 19 = .ok (.iload_n 2, 1) := by decide +kernel
theorem d_Mo_hasRoom_20 : decode prog_12_method_16_code 20 = .ok (.invokevirtual 108, 3) := by decide +kernel
theorem d_Mo_hasRoom_23 : decode prog_12_method_16_code 23 = .ok (.aload_n 0, 1) := by decide +kernel
theorem d_Mo_hasRoom_24 : decode prog_12_method_16_code 24 = .ok (.getfield 66, 3) := by decide +kernel
theorem d_Mo_hasRoom_27 : decode prog_12_method_16_code 27 = .ok (.aload_n 0, 1) := by decide +kernel
theorem d_Mo_hasRoom_28 : decode prog_12_method_16_code 28 = .ok (.invokevirtual 111, 3) := by decide +kernel
theorem d_Mo_hasRoom_31 : decode prog_12_method_16_code 31 = .ok (.isub, 1) := by decide +kernel
theorem d_Mo_hasRoom_32 : decode prog_12_method_16_code 32 = .ok (.if_icmp .gt 7, 3) := by decide +kernel
theorem d_Mo_hasRoom_35 : decode prog_12_method_16_code 35 = .ok (.iconst 1, 1) := by decide +kernel
theorem d_Mo_hasRoom_36 : decode prog_12_method_16_code 36 = .ok (.goto 4, 3) := by decide +kernel
theorem d_Mo_hasRoom_39 : decode prog_12_method_16_code 39 = .ok (.iconst 0, 1) := by decide +kernel
theorem d_Mo_hasRoom_40 : decode prog_12_method_16_code 40 = .ok (.ireturn, 1) := by decide +kernel
theorem d_Mo_hasRoomAnew_0 : decode prog_12_method_17_code 0 = .ok (.aload_n 0, 1) := by decide +kernel
theorem d_Mo_hasRoomAnew_1 : decode prog_12_method_17_code 1 = .ok (.getfield 66, 3) := by decide +kernel
theorem d_Mo_hasRoomAnew_4 : decode prog_12_method_17_code 4 = .ok (.aload_n 0, 1) := by decide +kernel
theorem d_Mo_hasRoomAnew_5 : decode prog_12_method_17_code 5 = .ok (.invokevirtual 111, 3) := by decide +kernel
theorem d_Mo_hasRoomAnew_8 : decode prog_12_method_17_code 8 = .ok (.isub, 1) := by decide +kernel
theorem d_Mo_hasRoomAnew_9 : decode prog_12_method_17_code 9 = .ok (.aload_n 0, 1) := by decide +kernel
theorem d_Mo_hasRoomAnew_10 : decode prog_12_method_17_code 10 = .ok (.getfield 37, 3) := by decide +kernel
theorem d_Mo_hasRoomAnew_13 : decode prog_12_method_17_code 13 = .ok (.iload_n 1, 1) := by decide +kernel
theorem d_Mo_hasRoomAnew_14 : decode prog_12_method_17_code 14 = .ok (.iaload, 1) := by decide +kernel
theorem d_Mo_hasRoomAnew_15 : decode prog_12_method_17_code 15 = .ok (.invokestatic 105, 3) := by decide +kernel
theorem d_Mo_hasRoomAnew_18 : decode prog_12_method_17_code 18 = .ok (.iadd, 1) := by decide +kernel
theorem d_Mo_hasRoomAnew_19 : decode prog_12_method_17_code 19 = .ok (.aload_n 0, 1) := by decide +kernel
theorem d_Mo_hasRoomAnew_20 : decode prog_12_method_17_code 20 = .ok (.getfield 47, 3) := by decide +kernel
theorem d_Mo_hasRoomAnew_23 : decode prog_12_method_17_code 23 = .ok (.iload_n 1, 1) := by decide +kernel
theorem d_Mo_hasRoomAnew_24 : decode prog_12_method_17_code 24 = .ok (.iaload, 1) := by decide +kernel
theorem d_Mo_hasRoomAnew_25 : decode prog_12_method_17_code 25 = .ok (.isub, 1) := by decide +kernel
theorem d_Mo_hasRoomAnew_26 : decode prog_12_method_17_code 26 = .ok (.istore_n 3, 1) := by decide +kernel
theorem d_Mo_hasRoomAnew_27 : decode prog_12_method_17_code 27 = .ok (.iload_n 2, 1) := by decide +kernel
theorem d_Mo_hasRoomAnew_28 : decode prog_12_method_17_code 28 = .ok (.invokestatic 105, 3) := by decide +kernel
theorem d_Mo_hasRoomAnew_31 : decode prog_12_method_17_code 31 = .ok (.sipush 400, 3) := by decide +kernel
theorem d_Mo_hasRoomAnew_34 : decode prog_12_method_17_code 34 = .ok (.if_icmp .gt 15, 3) := by decide +kernel
theorem d_Mo_hasRoomAnew_37 : decode prog_12_method_17_code 37 = .ok (.iload_n 2, 1) := by decide +kernel
theorem d_Mo_hasRoomAnew_38 : decode prog_12_method_17_code 38 = .ok (.invokestatic 105, 3) := by decide +kernel
theorem d_Mo_hasRoomAnew_41 : decode prog_12_method_17_code 41 = .ok (.iload_n 3, 1) := by decide +kernel
theorem d_Mo_hasRoomAnew_42 : decode prog_12_method_17_code 42 = .ok (.if_icmp .gt 7, 3) := by decide +kernel
theorem d_Mo_hasRoomAnew_45 : decode prog_12_method_17_code 45 = .ok (.iconst 1, 1) := by decide +kernel
theorem d_Mo_hasRoomAnew_46 : decode prog_12_method_17_code 46 = .ok (.goto 4, 3) := by decide +kernel
theorem d_Mo_hasRoomAnew_49 : decode prog_12_method_17_code 49 = .ok (.iconst 0, 1) := by decide +kernel
theorem d_Mo_hasRoomAnew_50 : decode prog_12_method_17_code 50 = .ok (.ireturn, 1) := by decide +kernel
theorem d_Mo_cut_0 : decode prog_12_method_18_code 0 = .ok (.aload_n 0, 1) := by decide +kernel
theorem d_Mo_cut_1 : decode prog_12_method_18_code 1 = .ok (.getfield 37, 3) := by decide +kernel
theorem d_Mo_cut_4 : decode prog_12_method_18_code 4 = .ok (.iload_n 1, 1) := by decide +kernel
theorem d_Mo_cut_5 : decode prog_12_method_18_code 5 = .ok (.iload_n 2, 1) := by decide +kernel
theorem d_Mo_cut_6 : decode prog_12_method_18_code 6 = .ok (.iastore, 1) := by decide +kernel
theorem d_Mo_cut_7 : decode prog_12_method_18_code 7 = .ok (.iconst 0, 1) := by decide +kernel
theorem d_Mo_cut_8 : decode prog_12_method_18_code 8 = .ok (.istore_n 3, 1) := by decide +kernel
theorem d_Mo_cut_9 : decode prog_12_method_18_code 9 = .ok (.iconst 0, 1) := by decide +kernel
theorem d_Mo_cut_10 : decode prog_12_method_18_code 10 = .ok (.istore 4, 2) := by decide +kernel
theorem d_Mo_cut_12 : decode prog_12_method_18_code 12 = .ok (.iload 4, 2) := by decide +kernel
theorem d_Mo_cut_14 : decode prog_12_method_18_code 14 = .ok (.aload_n 0, 1) := by decide +kernel
theorem d_Mo_cut_15 : decode prog_12_method_18_code 15 = .ok (.getfield 34, 3) := by decide +kernel
theorem d_Mo_cut_18 : decode prog_12_method_18_code 18 = .ok (.iload_n 1, 1) := by decide +kernel
theorem d_Mo_cut_19 : decode prog_12_method_18_code 19 = .ok (.iaload, 1) := by decide +kernel
theorem d_Mo_cut_20 : decode prog_12_method_18_code 20 = .ok (.if_icmp .ge 34, 3) := by decide +kernel
theorem d_Mo_cut_23 : decode prog_12_method_18_code 23 = .ok (.iload_n 3, 1) := by decide +kernel
theorem d_Mo_cut_24 : decode prog_12_method_18_code 24 = .ok (.iload_n 2, 1) := by decide +kernel
theorem d_Mo_cut_25 : decode prog_12_method_18_code 25 = .ok (.if_icmp .ge 29, 3) := by decide +kernel
theorem d_Mo_cut_28 : decode prog_12_method_18_code 28 = .ok (.iload_n 3, 1) := by decide +kernel
theorem d_Mo_cut_29 : decode prog_12_method_18_code 29 = .ok (.aload_n 0, 1) := by decide +kernel
theorem d_Mo_cut_30 : decode prog_12_method_18_code 30 = .ok (.aload_n 0, 1) := by decide +kernel
theorem d_Mo_cut_31 : decode prog_12_method_18_code 31 = .ok (.getfield 31, 3) := by decide +kernel
theorem d_Mo_cut_34 : decode prog_12_method_18_code 34 = .ok (.sipush 330, 3) := by decide +kernel
theorem d_Mo_cut_37 : decode prog_12_method_18_code 37 = .ok (.iload_n 1, 1) := by decide +kernel
theorem d_Mo_cut_38 : decode prog_12_method_18_code 38 = .ok (.imul, 1) := by decide +kernel
theorem d_Mo_cut_39 : decode prog_12_method_18_code 39 = .ok (.iload 4, 2) := by decide +kernel
theorem d_Mo_cut_41 : decode prog_12_method_18_code 41 = .ok (.iadd, 1) := by decide +kernel
theorem d_Mo_cut_42 : decode prog_12_method_18_code 42 = .ok (.iaload, 1) := by decide +kernel
theorem d_Mo_cut_43 : decode prog_12_method_18_code 43 = .ok (.invokevirtual 115, 3) := by decide +kernel
theorem d_Mo_cut_46 : decode prog_12_method_18_code 46 = .ok (.iadd, 1) := by decide +kernel
theorem d_Mo_cut_47 : decode prog_12_method_18_code 47 = .ok (.istore_n 3, 1) := by decide +kernel
theorem d_Mo_cut_48 : decode prog_12_method_18_code 48 = .ok (.iinc 4 1, 3) := by decide +kernel
theorem d_Mo_cut_51 : decode prog_12_method_18_code 51 = .ok (.goto (-39), 3) := by decide +kernel
theorem d_Mo_cut_54 : decode prog_12_method_18_code 54 = .ok (.aload_n 0, 1) := by decide +kernel
theorem d_Mo_cut_55 : decode prog_12_method_18_code 55 = .ok (.getfield 34, 3) := by decide +kernel
theorem d_Mo_cut_58 : decode prog_12_method_18_code 58 = .ok (.iload_n 1, 1) := by decide +kernel
theorem d_Mo_cut_59 : decode prog_12_method_18_code 59 = .ok (.iload 4, 2) := by decide +kernel
theorem d_Mo_cut_61 : decode prog_12_method_18_code 61 = .ok (.iastore, 1) := by decide +kernel
theorem d_Mo_cut_62 : decode prog_12_method_18_code 62 = .ok (.aload_n 0, 1) := by decide +kernel
theorem d_Mo_cut_63 : decode prog_12_method_18_code 63 = .ok (.getfield 44, 3) := by decide +kernel
theorem d_Mo_cut_66 : decode prog_12_method_18_code 66 = .ok (.iload_n 1, 1) := by decide +kernel
theorem d_Mo_cut_67 : decode prog_12_method_18_code 67 = .ok (.aload_n 0, 1) := by decide +kernel
theorem d_Mo_cut_68 : decode prog_12_method_18_code 68 = .ok (.getfield 44, 3) := by decide +kernel
theorem d_Mo_cut_71 : decode prog_12_method_18_code 71 = .ok (.iload_n 1, 1) := by decide +kernel
theorem d_Mo_cut_72 : decode prog_12_method_18_code 72 = .ok (.iaload, 1) := by decide +kernel
theorem d_Mo_cut_73 : decode prog_12_method_18_code 73 = .ok (.iload_n 2, 1) := by decide +kernel
theorem d_Mo_cut_74 : decode prog_12_method_18_code 74 = .ok (.if_icmp .ge 12, 3) := by decide +kernel
theorem d_Mo_cut_77 : decode prog_12_method_18_code 77 = .ok (.aload_n 0, 1) := by decide +kernel
theorem d_Mo_cut_78 : decode prog_12_method_18_code 78 = .ok (.getfield 44, 3) := by decide +kernel
theorem d_Mo_cut_81 : decode prog_12_method_18_code 81 = .ok (.iload_n 1, 1) := by decide +kernel
theorem d_Mo_cut_82 : decode prog_12_method_18_code 82 = .ok (.iaload, 1) := by decide +kernel
theorem d_Mo_cut_83 : decode prog_12_method_18_code 83 = .ok (.goto 4, 3) := by decide +kernel
theorem d_Mo_cut_86 : decode prog_12_method_18_code 86 = .ok (.iload_n 2, 1) := by decide +kernel
theorem d_Mo_cut_87 : decode prog_12_method_18_code 87 = .ok (.iastore, 1) := by decide +kernel
theorem d_Mo_cut_88 : decode prog_12_method_18_code 88 = .ok (.aload_n 0, 1) := by decide +kernel
theorem d_Mo_cut_89 : decode prog_12_method_18_code 89 = .ok (.getfield 47, 3) := by decide +kernel
theorem d_Mo_cut_92 : decode prog_12_method_18_code 92 = .ok (.iload_n 1, 1) := by decide +kernel
theorem d_Mo_cut_93 : decode prog_12_method_18_code 93 = .ok (.aload_n 0, 1) := by decide +kernel
theorem d_Mo_cut_94 : decode prog_12_method_18_code 94 = .ok (.getfield 47, 3) := by decide +kernel
theorem d_Mo_cut_97 : decode prog_12_method_18_code 97 = .ok (.iload_n 1, 1) := by decide +kernel
theorem d_Mo_cut_98 : decode prog_12_method_18_code 98 = .ok (.iaload, 1) := by decide +kernel
theorem d_Mo_cut_99 : decode prog_12_method_18_code 99 = .ok (.iload_n 2, 1) := by decide +kernel
theorem d_Mo_cut_100 : decode prog_12_method_18_code 100 = .ok (.invokestatic 105, 3) := by decide +kernel
theorem d_Mo_cut_103 : decode prog_12_method_18_code 103 = .ok (.if_icmp .ge 12, 3) := by decide +kernel
theorem d_Mo_cut_106 : decode prog_12_method_18_code 106 = .ok (.aload_n 0, 1) := by decide +kernel
theorem d_Mo_cut_107 : decode prog_12_method_18_code 107 = .ok (.getfield 47, 3) := by decide +kernel
theorem d_Mo_cut_110 : decode prog_12_method_18_code 110 = .ok (.iload_n 1, 1) := by decide +kernel
theorem d_Mo_cut_111 : decode prog_12_method_18_code 111 = .ok (.iaload, 1) := by decide +kernel
theorem d_Mo_cut_112 : decode prog_12_method_18_code 112 = .ok (.goto 7, 3) := by decide +kernel
theorem d_Mo_cut_115 : decode prog_12_method_18_code 115 = .ok (.iload_n 2, 1) := by decide +kernel
theorem d_Mo_cut_116 : decode prog_12_method_18_code 116 = .ok (.invokestatic 105, 3) := by decide +kernel
theorem d_Mo_cut_119 : decode prog_12_method_18_code 119 = .ok (.iastore, 1) := by decide +kernel
theorem d_Mo_cut_120 : decode prog_12_method_18_code 120 = .ok (.return_, 1) := by decide +kernel
theorem d_Mo_remove_0 : decode prog_12_method_19_code 0 = .ok (.aload_n 0, 1) := by decide +kernel
theorem d_Mo_remove_1 : decode prog_12_method_19_code 1 = .ok (.iload_n 1, 1) := by decide +kernel
theorem d_Mo_remove_2 : decode prog_12_method_19_code 2 = .ok (.iconst 0, 1) := by decide +kernel
theorem d_Mo_remove_3 : decode prog_12_method_19_code 3 = .ok (.invokevirtual 118, 3) := by decide +kernel
theorem d_Mo_remove_6 : decode prog_12_method_19_code 6 = .ok (.aload_n 0, 1) := by decide +kernel
theorem d_Mo_remove_7 : decode prog_12_method_19_code 7 = .ok (.getfield 40, 3) := by decide +kernel
theorem d_Mo_remove_10 : decode prog_12_method_19_code 10 = .ok (.iload_n 1, 1) := by decide +kernel
theorem d_Mo_remove_11 : decode prog_12_method_19_code 11 = .ok (.iconst 0, 1) := by decide +kernel
theorem d_Mo_remove_12 : decode prog_12_method_19_code 12 = .ok (.bastore, 1) := by decide +kernel
theorem d_Mo_remove_13 : decode prog_12_method_19_code 13 = .ok (.return_, 1) := by decide +kernel
theorem d_Mo_put_0 : decode prog_12_method_20_code 0 = .ok (.aload_n 0, 1) := by decide +kernel
theorem d_Mo_put_1 : decode prog_12_method_20_code 1 = .ok (.getfield 37, 3) := by decide +kernel
theorem d_Mo_put_4 : decode prog_12_method_20_code 4 = .ok (.iload_n 1, 1) := by decide +kernel
theorem d_Mo_put_5 : decode prog_12_method_20_code 5 = .ok (.iaload, 1) := by decide +kernel
theorem d_Mo_put_6 : decode prog_12_method_20_code 6 = .ok (.bipush 64, 2) := by decide +kernel
theorem d_Mo_put_8 : decode prog_12_method_20_code 8 = .ok (.irem, 1) := by decide +kernel
theorem d_Mo_put_9 : decode prog_12_method_20_code 9 = .ok (.ifCond .eq 36, 3) := by decide +kernel
theorem d_Mo_put_12 : decode prog_12_method_20_code 12 = .ok (.aload_n 0, 1) := by decide +kernel
theorem d_Mo_put_13 : decode prog_12_method_20_code 13 = .ok (.getfield 37, 3) := by decide +kernel
theorem d_Mo_put_16 : decode prog_12_method_20_code 16 = .ok (.iload_n 1, 1) := by decide +kernel
theorem d_Mo_put_17 : decode prog_12_method_20_code 17 = .ok (.iaload, 1) := by decide +kernel
theorem d_Mo_put_18 : decode prog_12_method_20_code 18 = .ok (.bipush 64, 2) := by decide +kernel
theorem d_Mo_put_20 : decode prog_12_method_20_code 20 = .ok (.idiv, 1) := by decide +kernel
theorem d_Mo_put_21 : decode prog_12_method_20_code 21 = .ok (.aload_n 0, 1) := by decide +kernel
theorem d_Mo_put_22 : decode prog_12_method_20_code 22 = .ok (.getfield 47, 3) := by decide +kernel
theorem d_Mo_put_25 : decode prog_12_method_20_code 25 = .ok (.iload_n 1, 1) := by decide +kernel
theorem d_Mo_put_26 : decode prog_12_method_20_code 26 = .ok (.iaload, 1) := by decide +kernel
theorem d_Mo_put_27 : decode prog_12_method_20_code 27 = .ok (.if_icmp .ge 18, 3) := by decide +kernel
theorem d_Mo_put_30 : decode prog_12_method_20_code 30 = .ok (.aload_n 0, 1) := by decide +kernel
theorem d_Mo_put_31 : decode prog_12_method_20_code 31 = .ok (.getfield 47, 3) := by decide +kernel
theorem d_Mo_put_34 : decode prog_12_method_20_code 34 = .ok (.iload_n 1, 1) := by decide +kernel
theorem d_Mo_put_35 : decode prog_12_method_20_code 35 = .ok (.aload_n 0, 1) := by decide +kernel
theorem d_Mo_put_36 : decode prog_12_method_20_code 36 = .ok (.getfield 37, 3) := by decide +kernel
theorem d_Mo_put_39 : decode prog_12_method_20_code 39 = .ok (.iload_n 1, 1) := by decide +kernel
theorem d_Mo_put_40 : decode prog_12_method_20_code 40 = .ok (.iaload, 1) := by decide +kernel
theorem d_Mo_put_41 : decode prog_12_method_20_code 41 = .ok (.bipush 64, 2) := by decide +kernel
theorem d_Mo_put_43 : decode prog_12_method_20_code 43 = .ok (.idiv, 1) := by decide +kernel
theorem d_Mo_put_44 : decode prog_12_method_20_code 44 = .ok (.iastore, 1) := by decide +kernel
theorem d_Mo_put_45 : decode prog_12_method_20_code 45 = .ok (.aload_n 0, 1) := by decide +kernel
theorem d_Mo_put_46 : decode prog_12_method_20_code 46 = .ok (.getfield 31, 3) := by decide +kernel
theorem d_Mo_put_49 : decode prog_12_method_20_code 49 = .ok (.sipush 330, 3) := by decide +kernel
theorem d_Mo_put_52 : decode prog_12_method_20_code 52 = .ok (.iload_n 1, 1) := by decide +kernel
theorem d_Mo_put_53 : decode prog_12_method_20_code 53 = .ok (.imul, 1) := by decide +kernel
theorem d_Mo_put_54 : decode prog_12_method_20_code 54 = .ok (.aload_n 0, 1) := by decide +kernel
theorem d_Mo_put_55 : decode prog_12_method_20_code 55 = .ok (.getfield 34, 3) := by decide +kernel
theorem d_Mo_put_58 : decode prog_12_method_20_code 58 = .ok (.iload_n 1, 1) := by decide +kernel
theorem d_Mo_put_59 : decode prog_12_method_20_code 59 = .ok (.iaload, 1) := by decide +kernel
theorem d_Mo_put_60 : decode prog_12_method_20_code 60 = .ok (.iadd, 1) := by decide +kernel
theorem d_Mo_put_61 : decode prog_12_method_20_code 61 = .ok (.iload_n 2, 1) := by decide +kernel
theorem d_Mo_put_62 : decode prog_12_method_20_code 62 = .ok (.iastore, 1) := by decide +kernel
theorem d_Mo_put_63 : decode prog_12_method_20_code 63 = .ok (.aload_n 0, 1) := by decide +kernel
theorem d_Mo_put_64 : decode prog_12_method_20_code 64 = .ok (.getfield 34, 3) := by decide +kernel
theorem d_Mo_put_67 : decode prog_12_method_20_code 67 = .ok (.iload_n 1, 1) := by decide +kernel
theorem d_Mo_put_68 : decode prog_12_method_20_code 68 = .ok (.dup2, 1) := by decide +kernel
theorem d_Mo_put_69 : decode prog_12_method_20_code 69 = .ok (.iaload, 1) := by decide +kernel
theorem d_Mo_put_70 : decode prog_12_method_20_code 70 = .ok (.iconst 1, 1) := by decide +kernel
theorem d_Mo_put_71 : decode prog_12_method_20_code 71 = .ok (.iadd, 1) := by decide +kernel
theorem d_Mo_put_72 : decode prog_12_method_20_code 72 = .ok (.iastore, 1) := by decide +kernel
theorem d_Mo_put_73 : decode prog_12_method_20_code 73 = .ok (.aload_n 0, 1) := by decide +kernel
theorem d_Mo_put_74 : decode prog_12_method_20_code 74 = .ok (.getfield 37, 3) := by decide +kernel
theorem d_Mo_put_77 : decode prog_12_method_20_code 77 = .ok (.iload_n 1, 1) := by decide +kernel
theorem d_Mo_put_78 : decode prog_12_method_20_code 78 = .ok (.dup2, 1) := by decide +kernel
theorem d_Mo_put_79 : decode prog_12_method_20_code 79 = .ok (.iaload, 1) := by decide +kernel
theorem d_Mo_put_80 : decode prog_12_method_20_code 80 = .ok (.aload_n 0, 1) := by decide +kernel
theorem d_Mo_put_81 : decode prog_12_method_20_code 81 = .ok (.iload_n 2, 1) := by decide +kernel
theorem d_Mo_put_82 : decode prog_12_method_20_code 82 = .ok (.invokevirtual 115, 3) := by decide +kernel
theorem d_Mo_put_85 : decode prog_12_method_20_code 85 = .ok (.iadd, 1) := by decide +kernel
theorem d_Mo_put_86 : decode prog_12_method_20_code 86 = .ok (.iastore, 1) := by decide +kernel
theorem d_Mo_put_87 : decode prog_12_method_20_code 87 = .ok (.aload_n 0, 1) := by decide +kernel
theorem d_Mo_put_88 : decode prog_12_method_20_code 88 = .ok (.getfield 40, 3) := by decide +kernel
theorem d_Mo_put_91 : decode prog_12_method_20_code 91 = .ok (.iload_n 1, 1) := by decide +kernel
theorem d_Mo_put_92 : decode prog_12_method_20_code 92 = .ok (.iconst 1, 1) := by decide +kernel
theorem d_Mo_put_93 : decode prog_12_method_20_code 93 = .ok (.bastore, 1) := by decide +kernel
theorem d_Mo_put_94 : decode prog_12_method_20_code 94 = .ok (.return_, 1) := by decide +kernel
theorem d_Mo_copy_0 : decode prog_12_method_21_code 0 = .ok (.iconst 0, 1) := by decide +kernel
theorem d_Mo_copy_1 : decode prog_12_method_21_code 1 = .ok (.istore_n 3, 1) := by decide +kernel
theorem d_Mo_copy_2 : decode prog_12_method_21_code 2 = .ok (.iload_n 3, 1) := by decide +kernel
theorem d_Mo_copy_3 : decode prog_12_method_21_code 3 = .ok (.aload_n 0, 1) := by decide +kernel
theorem d_Mo_copy_4 : decode prog_12_method_21_code 4 = .ok (.getfield 34, 3) := by decide +kernel
theorem d_Mo_copy_7 : decode prog_12_method_21_code 7 = .ok (.iload_n 1, 1) := by decide +kernel
theorem d_Mo_copy_8 : decode prog_12_method_21_code 8 = .ok (.iaload, 1) := by decide +kernel
theorem d_Mo_copy_9 : decode prog_12_method_21_code 9 = .ok (.if_icmp .ge 33, 3) := by decide +kernel
theorem d_Mo_copy_12 : decode prog_12_method_21_code 12 = .ok (.aload_n 0, 1) := by decide +kernel
theorem d_Mo_copy_13 : decode prog_12_method_21_code 13 = .ok (.getfield 31, 3) := by decide +kernel
theorem d_Mo_copy_16 : decode prog_12_method_21_code 16 = .ok (.sipush 330, 3) := by decide +kernel
theorem d_Mo_copy_19 : decode prog_12_method_21_code 19 = .ok (.iload_n 2, 1) := by decide +kernel
theorem d_Mo_copy_20 : decode prog_12_method_21_code 20 = .ok (.imul, 1) := by decide +kernel
theorem d_Mo_copy_21 : decode prog_12_method_21_code 21 = .ok (.iload_n 3, 1) := by decide +kernel
theorem d_Mo_copy_22 : decode prog_12_method_21_code 22 = .ok (.iadd, 1) := by decide +kernel
theorem d_Mo_copy_23 : decode prog_12_method_21_code 23 = .ok (.aload_n 0, 1) := by decide +kernel
theorem d_Mo_copy_24 : decode prog_12_method_21_code 24 = .ok (.getfield 31, 3) := by decide +kernel
theorem d_Mo_copy_27 : decode prog_12_method_21_code 27 = .ok (.sipush 330, 3) := by decide +kernel
theorem d_Mo_copy_30 : decode prog_12_method_21_code 30 = .ok (.iload_n 1, 1) := by decide +kernel
theorem d_Mo_copy_31 : decode prog_12_method_21_code 31 = .ok (.imul, 1) := by decide +kernel
theorem d_Mo_copy_32 : decode prog_12_method_21_code 32 = .ok (.iload_n 3, 1) := by decide +kernel
theorem d_Mo_copy_33 : decode prog_12_method_21_code 33 = .ok (.iadd, 1) := by decide +kernel
theorem d_Mo_copy_34 : decode prog_12_method_21_code 34 = .ok (.iaload, 1) := by decide +kernel
theorem d_Mo_copy_35 : decode prog_12_method_21_code 35 = .ok (.iastore, 1) := by decide +kernel
theorem d_Mo_copy_36 : decode prog_12_method_21_code 36 = .ok (.iinc 3 1, 3) := by decide +kernel
theorem d_Mo_copy_39 : decode prog_12_method_21_code 39 = .ok (.goto (-37), 3) := by decide +kernel
theorem d_Mo_copy_42 : decode prog_12_method_21_code 42 = .ok (.aload_n 0, 1) := by decide +kernel
theorem d_Mo_copy_43 : decode prog_12_method_21_code 43 = .ok (.getfield 34, 3) := by decide +kernel
theorem d_Mo_copy_46 : decode prog_12_method_21_code 46 = .ok (.iload_n 2, 1) := by decide +kernel
theorem d_Mo_copy_47 : decode prog_12_method_21_code 47 = .ok (.aload_n 0, 1) := by decide +kernel
theorem d_Mo_copy_48 : decode prog_12_method_21_code 48 = .ok (.getfield 34, 3) := by decide +kernel
theorem d_Mo_copy_51 : decode prog_12_method_21_code 51 = .ok (.iload_n 1, 1) := by decide +kernel
theorem d_Mo_copy_52 : decode prog_12_method_21_code 52 = .ok (.iaload, 1) := by decide +kernel
theorem d_Mo_copy_53 : decode prog_12_method_21_code 53 = .ok (.iastore, 1) := by decide +kernel
theorem d_Mo_copy_54 : decode prog_12_method_21_code 54 = .ok (.aload_n 0, 1) := by decide +kernel
theorem d_Mo_copy_55 : decode prog_12_method_21_code 55 = .ok (.getfield 37, 3) := by decide +kernel
theorem d_Mo_copy_58 : decode prog_12_method_21_code 58 = .ok (.iload_n 2, 1) := by decide +kernel
theorem d_Mo_copy_59 : decode prog_12_method_21_code 59 = .ok (.aload_n 0, 1) := by decide +kernel
theorem d_Mo_copy_60 : decode prog_12_method_21_code 60 = .ok (.getfield 37, 3) := by decide +kernel
theorem d_Mo_copy_63 : decode prog_12_method_21_code 63 = .ok (.iload_n 1, 1) := by decide +kernel
theorem d_Mo_copy_64 : decode prog_12_method_21_code 64 = .ok (.iaload, 1) := by decide +kernel
theorem d_Mo_copy_65 : decode prog_12_method_21_code 65 = .ok (.iastore, 1) := by decide +kernel
theorem d_Mo_copy_66 : decode prog_12_method_21_code 66 = .ok (.aload_n 0, 1) := by decide +kernel
theorem d_Mo_copy_67 : decode prog_12_method_21_code 67 = .ok (.getfield 40, 3) := by decide +kernel
theorem d_Mo_copy_70 : decode prog_12_method_21_code 70 = .ok (.iload_n 2, 1) := by decide +kernel
theorem d_Mo_copy_71 : decode prog_12_method_21_code 71 = .ok (.aload_n 0, 1) := by decide +kernel
theorem d_Mo_copy_72 : decode prog_12_method_21_code 72 = .ok (.getfield 40, 3) := by decide +kernel
theorem d_Mo_copy_75 : decode prog_12_method_21_code 75 = .ok (.iload_n 1, 1) := by decide +kernel
theorem d_Mo_copy_76 : decode prog_12_method_21_code 76 = .ok (.baload, 1) := by decide +kernel
theorem d_Mo_copy_77 : decode prog_12_method_21_code 77 = .ok (.bastore, 1) := by decide +kernel
theorem d_Mo_copy_78 : decode prog_12_method_21_code 78 = .ok (.return_, 1) := by decide +kernel
theorem d_Mo_settle_0 : decode prog_12_method_22_code 0 = .ok (.aload_n 0, 1) := by decide +kernel
theorem d_Mo_settle_1 : decode prog_12_method_22_code 1 = .ok (.iload_n 1, 1) := by decide +kernel
theorem d_Mo_settle_2 : decode prog_12_method_22_code 2 = .ok (.bipush 16, 2) := by decide +kernel
theorem d_Mo_settle_4 : decode prog_12_method_22_code 4 = .ok (.iload_n 1, 1) := by decide +kernel
theorem d_Mo_settle_5 : decode prog_12_method_22_code 5 = .ok (.iadd, 1) := by decide +kernel
theorem d_Mo_settle_6 : decode prog_12_method_22_code 6 = .ok (.invokevirtual 122, 3) := by decide +kernel
theorem d_Mo_settle_9 : decode prog_12_method_22_code 9 = .ok (.aload_n 0, 1) := by decide +kernel
theorem d_Mo_settle_10 : decode prog_12_method_22_code 10 = .ok (.getfield 44, 3) := by decide +kernel
theorem d_Mo_settle_13 : decode prog_12_method_22_code 13 = .ok (.iload_n 1, 1) := by decide +kernel
theorem d_Mo_settle_14 : decode prog_12_method_22_code 14 = .ok (.aload_n 0, 1) := by decide +kernel
theorem d_Mo_settle_15 : decode prog_12_method_22_code 15 = .ok (.getfield 37, 3) := by decide +kernel
theorem d_Mo_settle_18 : decode prog_12_method_22_code 18 = .ok (.iload_n 1, 1) := by decide +kernel
theorem d_Mo_settle_19 : decode prog_12_method_22_code 19 = .ok (.iaload, 1) := by decide +kernel
theorem d_Mo_settle_20 : decode prog_12_method_22_code 20 = .ok (.iastore, 1) := by decide +kernel
theorem d_Mo_settle_21 : decode prog_12_method_22_code 21 = .ok (.aload_n 0, 1) := by decide +kernel
theorem d_Mo_settle_22 : decode prog_12_method_22_code 22 = .ok (.getfield 47, 3) := by decide +kernel
theorem d_Mo_settle_25 : decode prog_12_method_22_code 25 = .ok (.iload_n 1, 1) := by decide +kernel
theorem d_Mo_settle_26 : decode prog_12_method_22_code 26 = .ok (.aload_n 0, 1) := by decide +kernel
theorem d_Mo_settle_27 : decode prog_12_method_22_code 27 = .ok (.getfield 37, 3) := by decide +kernel
theorem d_Mo_settle_30 : decode prog_12_method_22_code 30 = .ok (.iload_n 1, 1) := by decide +kernel
theorem d_Mo_settle_31 : decode prog_12_method_22_code 31 = .ok (.iaload, 1) := by decide +kernel
theorem d_Mo_settle_32 : decode prog_12_method_22_code 32 = .ok (.invokestatic 105, 3) := by decide +kernel
theorem d_Mo_settle_35 : decode prog_12_method_22_code 35 = .ok (.iastore, 1) := by decide +kernel
theorem d_Mo_settle_36 : decode prog_12_method_22_code 36 = .ok (.return_, 1) := by decide +kernel
theorem d_Mo_feed_0 : decode prog_12_method_23_code 0 = .ok (.aload_n 0, 1) := by decide +kernel
theorem d_Mo_feed_1 : decode prog_12_method_23_code 1 = .ok (.iconst 0, 1) := by decide +kernel
theorem d_Mo_feed_2 : decode prog_12_method_23_code 2 = .ok (.putfield 78, 3) := by decide +kernel
theorem d_Mo_feed_5 : decode prog_12_method_23_code 5 = .ok (.iload_n 3, 1) := by decide +kernel
theorem d_Mo_feed_6 : decode prog_12_method_23_code 6 = .ok (.iconst 1, 1) := by decide +kernel
theorem d_Mo_feed_7 : decode prog_12_method_23_code 7 = .ok (.bipush 8, 2) := by decide +kernel
theorem d_Mo_feed_9 : decode prog_12_method_23_code 9 = .ok (.invokestatic 125, 3) := by decide +kernel
theorem d_Mo_feed_12 : decode prog_12_method_23_code 12 = .ok (.ifCond .ne 9, 3) := by decide +kernel
theorem d_Mo_feed_15 : decode prog_12_method_23_code 15 = .ok (.aload_n 0, 1) := by decide +kernel
theorem d_Mo_feed_16 : decode prog_12_method_23_code 16 = .ok (.iconst 1, 1) := by decide +kernel
theorem d_Mo_feed_17 : decode prog_12_method_23_code 17 = .ok (.invokevirtual 129, 3) := by decide +kernel
theorem d_Mo_feed_20 : decode prog_12_method_23_code 20 = .ok (.ireturn, 1) := by decide +kernel
theorem d_Mo_feed_21 : decode prog_12_method_23_code 21 = .ok (.aload_n 0, 1) := by decide +kernel
theorem d_Mo_feed_22 : decode prog_12_method_23_code 22 = .ok (.getfield 132, 3) := by decide +kernel
theorem d_Mo_feed_25 : decode prog_12_method_23_code 25 = .ok (.iload_n 3, 1) := by decide +kernel
theorem d_Mo_feed_26 : decode prog_12_method_23_code 26 = .ok (.iadd, 1) := by decide +kernel
theorem d_Mo_feed_27 : decode prog_12_method_23_code 27 = .ok (.sipush 4096, 3) := by decide +kernel
theorem d_Mo_feed_30 : decode prog_12_method_23_code 30 = .ok (.if_icmp .le 9, 3) := by decide +kernel
theorem d_Mo_feed_33 : decode prog_12_method_23_code 33 = .ok (.aload_n 0, 1) := by decide +kernel
theorem d_Mo_feed_34 : decode prog_12_method_23_code 34 = .ok (.iconst 2, 1) := by decide +kernel
theorem d_Mo_feed_35 : decode prog_12_method_23_code 35 = .ok (.invokevirtual 129, 3) := by decide +kernel
theorem d_Mo_feed_38 : decode prog_12_method_23_code 38 = .ok (.ireturn, 1) := by decide +kernel
theorem d_Mo_feed_39 : decode prog_12_method_23_code 39 = .ok (.iconst 0, 1) := by decide +kernel
theorem d_Mo_feed_40 : decode prog_12_method_23_code 40 = .ok (.istore 4, 2) := by decide +kernel
theorem d_Mo_feed_42 : decode prog_12_method_23_code 42 = .ok (.iload 4, 2) := by decide +kernel
theorem d_Mo_feed_44 : decode prog_12_method_23_code 44 = .ok (.iload_n 3, 1) := by decide +kernel
theorem d_Mo_feed_45 : decode prog_12_method_23_code 45 = .ok (.if_icmp .ge 27, 3) := by decide +kernel
theorem d_Mo_feed_48 : decode prog_12_method_23_code 48 = .ok (.aload_n 0, 1) := by decide +kernel
theorem d_Mo_feed_49 : decode prog_12_method_23_code 49 = .ok (.getfield 63, 3) := by decide +kernel
theorem d_Mo_feed_52 : decode prog_12_method_23_code 52 = .ok (.aload_n 0, 1) := by decide +kernel
theorem d_Mo_feed_53 : decode prog_12_method_23_code 53 = .ok (.getfield 132, 3) := by decide +kernel
theorem d_Mo_feed_56 : decode prog_12_method_23_code 56 = .ok (.iload 4, 2) := by decide +kernel
theorem d_Mo_feed_58 : decode prog_12_method_23_code 58 = .ok (.iadd, 1) := by decide +kernel
theorem d_Mo_feed_59 : decode prog_12_method_23_code 59 = .ok (.lload_n 1, 1) := by decide +kernel
theorem d_Mo_feed_60 : decode prog_12_method_23_code 60 = .ok (.iload 4, 2) := by decide +kernel
theorem d_Mo_feed_62 : decode prog_12_method_23_code 62 = .ok (.invokestatic 93, 3) := by decide +kernel
theorem d_Mo_feed_65 : decode prog_12_method_23_code 65 = .ok (.iastore, 1) := by decide +kernel
theorem d_Mo_feed_66 : decode prog_12_method_23_code 66 = .ok (.iinc 4 1, 3) := by decide +kernel
theorem d_Mo_feed_69 : decode prog_12_method_23_code 69 = .ok (.goto (-27), 3) := by decide +kernel
theorem d_Mo_feed_72 : decode prog_12_method_23_code 72 = .ok (.aload_n 0, 1) := by decide +kernel
theorem d_Mo_feed_73 : decode prog_12_method_23_code 73 = .ok (.dup, 1) := by decide +kernel
theorem d_Mo_feed_74 : decode prog_12_method_23_code 74 = .ok (.getfield 132, 3) := by decide +kernel
theorem d_Mo_feed_77 : decode prog_12_method_23_code 77 = .ok (.iload_n 3, 1) := by decide +kernel
theorem d_Mo_feed_78 : decode prog_12_method_23_code 78 = .ok (.iadd, 1) := by decide +kernel
theorem d_Mo_feed_79 : decode prog_12_method_23_code 79 = .ok (.putfield 132, 3) := by decide +kernel
theorem d_Mo_feed_82 : decode prog_12_method_23_code 82 = .ok (.aload_n 0, 1) := by decide +kernel
theorem d_Mo_feed_83 : decode prog_12_method_23_code 83 = .ok (.getfield 132, 3) := by decide +kernel
theorem d_Mo_feed_86 : decode prog_12_method_23_code 86 = .ok (.ireturn, 1) := by decide +kernel
theorem d_Mo_save_0 : decode prog_12_method_24_code 0 = .ok (.aload_n 0, 1) := by decide +kernel
theorem d_Mo_save_1 : decode prog_12_method_24_code 1 = .ok (.iconst 0, 1) := by decide +kernel
theorem d_Mo_save_2 : decode prog_12_method_24_code 2 = .ok (.putfield 78, 3) := by decide +kernel
theorem d_Mo_save_5 : decode prog_12_method_24_code 5 = .ok (.iload_n 1, 1) := by decide +kernel
theorem d_Mo_save_6 : decode prog_12_method_24_code 6 = .ok (.aload_n 0, 1) := by decide +kernel
theorem d_Mo_save_7 : decode prog_12_method_24_code 7 = .ok (.getfield 135, 3) := by decide +kernel
theorem d_Mo_save_10 : decode prog_12_method_24_code 10 = .ok (.ldc 138, 2) := by decide +kernel
theorem d_Mo_save_12 : decode prog_12_method_24_code 12 = .ok (.invokestatic 125, 3) := by decide +kernel
theorem d_Mo_save_15 : decode prog_12_method_24_code 15 = .ok (.ifCond .eq 13, 3) := by decide +kernel
theorem d_Mo_save_18 : decode prog_12_method_24_code 18 = .ok (.iload_n 2, 1) := by decide +kernel
theorem d_Mo_save_19 : decode prog_12_method_24_code 19 = .ok (.iconst (-1), 1) := by decide +kernel
theorem d_Mo_save_20 : decode prog_12_method_24_code 20 = .ok (.bipush 6, 2) := by decide +kernel
theorem d_Mo_save_22 : decode prog_12_method_24_code 22 = .ok (.invokestatic 125, 3) := by decide +kernel
theorem d_Mo_save_25 : decode prog_12_method_24_code 25 = .ok (.ifCond .ne 9, 3) := by decide +kernel
theorem d_Mo_save_28 : decode prog_12_method_24_code 28 = .ok (.aload_n 0, 1) := by decide +kernel
theorem d_Mo_save_29 : decode prog_12_method_24_code 29 = .ok (.iconst 1, 1) := by decide +kernel
theorem d_Mo_save_30 : decode prog_12_method_24_code 30 = .ok (.invokevirtual 129, 3) := by decide +kernel
theorem d_Mo_save_33 : decode prog_12_method_24_code 33 = .ok (.ireturn, 1) := by decide +kernel
theorem d_Mo_save_34 : decode prog_12_method_24_code 34 = .ok (.aload_n 0, 1) := by decide +kernel
theorem d_Mo_save_35 : decode prog_12_method_24_code 35 = .ok (.getfield 139, 3) := by decide +kernel
theorem d_Mo_save_38 : decode prog_12_method_24_code 38 = .ok (.ifCond .eq 10, 3) := by decide +kernel
theorem d_Mo_save_41 : decode prog_12_method_24_code 41 = .ok (.aload_n 0, 1) := by decide +kernel
theorem d_Mo_save_42 : decode prog_12_method_24_code 42 = .ok (.getfield 143, 3) := by decide +kernel
theorem d_Mo_save_45 : decode prog_12_method_24_code 45 = .ok (.goto 9, 3) := by decide +kernel
theorem d_Mo_save_48 : decode prog_12_method_24_code 48 = .ok (.iconst 1, 1) := by decide +kernel
theorem d_Mo_save_49 : decode prog_12_method_24_code 49 = .ok (.aload_n 0, 1) := by decide +kernel
theorem d_Mo_save_50 : decode prog_12_method_24_code 50 = .ok (.getfield 143, 3) := by decide +kernel
theorem d_Mo_save_53 : decode prog_12_method_24_code 53 = .ok (.isub, 1) := by decide +kernel
theorem d_Mo_save_54 : decode prog_12_method_24_code 54 = .ok (.istore_n 3, 1) := by decide +kernel
theorem d_Mo_save_55 : decode prog_12_method_24_code 55 = .ok (.aload_n 0, 1) := by decide +kernel
theorem d_Mo_save_56 : decode prog_12_method_24_code 56 = .ok (.iload_n 3, 1) := by decide +kernel
theorem d_Mo_save_57 : decode prog_12_method_24_code 57 = .ok (.bipush 32, 2) := by decide +kernel
theorem d_Mo_save_59 : decode prog_12_method_24_code 59 = .ok (.invokevirtual 146, 3) := by decide +kernel
theorem d_Mo_save_62 : decode prog_12_method_24_code 62 = .ok (.ifCond .ne 9, 3) := by decide +kernel
theorem d_Mo_save_65 : decode prog_12_method_24_code 65 = .ok (.aload_n 0, 1) := by decide +kernel
theorem d_Mo_save_66 : decode prog_12_method_24_code 66 = .ok (.iconst 2, 1) := by decide +kernel
theorem d_Mo_save_67 : decode prog_12_method_24_code 67 = .ok (.invokevirtual 129, 3) := by decide +kernel
theorem d_Mo_save_70 : decode prog_12_method_24_code 70 = .ok (.ireturn, 1) := by decide +kernel
theorem d_Mo_save_71 : decode prog_12_method_24_code 71 = .ok (.aload_n 0, 1) := by decide +kernel
theorem d_Mo_save_72 : decode prog_12_method_24_code 72 = .ok (.iload_n 1, 1) := by decide +kernel
theorem d_Mo_save_73 : decode prog_12_method_24_code 73 = .ok (.putfield 135, 3) := by decide +kernel
theorem d_Mo_save_76 : decode prog_12_method_24_code 76 = .ok (.aload_n 0, 1) := by decide +kernel
theorem d_Mo_save_77 : decode prog_12_method_24_code 77 = .ok (.iload_n 2, 1) := by decide +kernel
theorem d_Mo_save_78 : decode prog_12_method_24_code 78 = .ok (.putfield 53, 3) := by decide +kernel
theorem d_Mo_save_81 : decode prog_12_method_24_code 81 = .ok (.aload_n 0, 1) := by decide +kernel
theorem d_Mo_save_82 : decode prog_12_method_24_code 82 = .ok (.dup, 1) := by decide +kernel
theorem d_Mo_save_83 : decode prog_12_method_24_code 83 = .ok (.getfield 150, 3) := by decide +kernel
theorem d_Mo_save_86 : decode prog_12_method_24_code 86 = .ok (.iconst 1, 1) := by decide +kernel
theorem d_Mo_save_87 : decode prog_12_method_24_code 87 = .ok (.iadd, 1) := by decide +kernel
theorem d_Mo_save_88 : decode prog_12_method_24_code 88 = .ok (.putfield 150, 3) := by decide +kernel
theorem d_Mo_save_91 : decode prog_12_method_24_code 91 = .ok (.aload_n 0, 1) := by decide +kernel
theorem d_Mo_save_92 : decode prog_12_method_24_code 92 = .ok (.iload_n 3, 1) := by decide +kernel
theorem d_Mo_save_93 : decode prog_12_method_24_code 93 = .ok (.iconst 0, 1) := by decide +kernel
end
section
theorem d_Mo_save_94 : decode prog_12_method_24_code 94 = .ok (.invokevirtual 118, 3) := by decide +kernel
theorem d_Mo_save_97 : decode prog_12_method_24_code 97 = .ok (.aload_n 0, 1) := by decide +kernel
theorem d_Mo_save_98 : decode prog_12_method_24_code 98 = .ok (.iconst 0, 1) := by decide +kernel
theorem d_Mo_save_99 : decode prog_12_method_24_code 99 = .ok (.aload_n 0, 1) := by decide +kernel
theorem d_Mo_save_100 : decode prog_12_method_24_code 100 = .ok (.getfield 150, 3) := by decide +kernel
theorem d_Mo_save_103 : decode prog_12_method_24_code 103 = .ok (.iload_n 1, 1) := by decide +kernel
theorem d_Mo_save_104 : decode prog_12_method_24_code 104 = .ok (.iload_n 2, 1) := by decide +kernel
theorem d_Mo_save_105 : decode prog_12_method_24_code 105 = .ok (.invokevirtual 153, 3) := by decide +kernel
theorem d_Mo_save_108 : decode prog_12_method_24_code 108 = .ok (.istore 4, 2) := by decide +kernel
theorem d_Mo_save_110 : decode prog_12_method_24_code 110 = .ok (.aload_n 0, 1) := by decide +kernel
theorem d_Mo_save_111 : decode prog_12_method_24_code 111 = .ok (.iload_n 3, 1) := by decide +kernel
theorem d_Mo_save_112 : decode prog_12_method_24_code 112 = .ok (.iload 4, 2) := by decide +kernel
theorem d_Mo_save_114 : decode prog_12_method_24_code 114 = .ok (.invokevirtual 157, 3) := by decide +kernel
theorem d_Mo_save_117 : decode prog_12_method_24_code 117 = .ok (.aload_n 0, 1) := by decide +kernel
theorem d_Mo_save_118 : decode prog_12_method_24_code 118 = .ok (.iload_n 3, 1) := by decide +kernel
theorem d_Mo_save_119 : decode prog_12_method_24_code 119 = .ok (.putfield 143, 3) := by decide +kernel
theorem d_Mo_save_122 : decode prog_12_method_24_code 122 = .ok (.aload_n 0, 1) := by decide +kernel
theorem d_Mo_save_123 : decode prog_12_method_24_code 123 = .ok (.iconst 1, 1) := by decide +kernel
theorem d_Mo_save_124 : decode prog_12_method_24_code 124 = .ok (.putfield 139, 3) := by decide +kernel
theorem d_Mo_save_127 : decode prog_12_method_24_code 127 = .ok (.aload_n 0, 1) := by decide +kernel
theorem d_Mo_save_128 : decode prog_12_method_24_code 128 = .ok (.iconst 1, 1) := by decide +kernel
theorem d_Mo_save_129 : decode prog_12_method_24_code 129 = .ok (.putfield 160, 3) := by decide +kernel
theorem d_Mo_save_132 : decode prog_12_method_24_code 132 = .ok (.iload_n 3, 1) := by decide +kernel
theorem d_Mo_save_133 : decode prog_12_method_24_code 133 = .ok (.ireturn, 1) := by decide +kernel
theorem d_Mo_termOf_0 : decode prog_12_method_25_code 0 = .ok (.iload_n 1, 1) := by decide +kernel
theorem d_Mo_termOf_1 : decode prog_12_method_25_code 1 = .ok (.aload_n 0, 1) := by decide +kernel
theorem d_Mo_termOf_2 : decode prog_12_method_25_code 2 = .ok (.getfield 163, 3) := by decide +kernel
theorem d_Mo_termOf_5 : decode prog_12_method_25_code 5 = .ok (.if_icmp .ne 10, 3) := by decide +kernel
theorem d_Mo_termOf_8 : decode prog_12_method_25_code 8 = .ok (.aload_n 0, 1) := by decide +kernel
theorem d_Mo_termOf_9 : decode prog_12_method_25_code 9 = .ok (.getfield 166, 3) := by decide +kernel
theorem d_Mo_termOf_12 : decode prog_12_method_25_code 12 = .ok (.goto 21, 3) := by decide +kernel
theorem d_Mo_termOf_15 : decode prog_12_method_25_code 15 = .ok (.aload_n 0, 1) := by decide +kernel
theorem d_Mo_termOf_16 : decode prog_12_method_25_code 16 = .ok (.getfield 16, 3) := by decide +kernel
theorem d_Mo_termOf_19 : decode prog_12_method_25_code 19 = .ok (.aload_n 0, 1) := by decide +kernel
theorem d_Mo_termOf_20 : decode prog_12_method_25_code 20 = .ok (.getfield 60, 3) := by decide +kernel
theorem d_Mo_termOf_23 : decode prog_12_method_25_code 23 = .ok (.iload_n 1, 1) := by decide +kernel
theorem d_Mo_termOf_24 : decode prog_12_method_25_code 24 = .ok (.aload_n 0, 1) := by decide +kernel
theorem d_Mo_termOf_25 : decode prog_12_method_25_code 25 = .ok (.getfield 163, 3) := by decide +kernel
theorem d_Mo_termOf_28 : decode prog_12_method_25_code 28 = .ok (.isub, 1) := by decide +kernel
theorem d_Mo_termOf_29 : decode prog_12_method_25_code 29 = .ok (.iconst 1, 1) := by decide +kernel
theorem d_Mo_termOf_30 : decode prog_12_method_25_code 30 = .ok (.isub, 1) := by decide +kernel
theorem d_Mo_termOf_31 : decode prog_12_method_25_code 31 = .ok (.iaload, 1) := by decide +kernel
theorem d_Mo_termOf_32 : decode prog_12_method_25_code 32 = .ok (.iaload, 1) := by decide +kernel
theorem d_Mo_termOf_33 : decode prog_12_method_25_code 33 = .ok (.ireturn, 1) := by decide +kernel
theorem d_Mo_freeFile_0 : decode prog_12_method_26_code 0 = .ok (.iconst 4, 1) := by decide +kernel
theorem d_Mo_freeFile_1 : decode prog_12_method_26_code 1 = .ok (.istore_n 1, 1) := by decide +kernel
theorem d_Mo_freeFile_2 : decode prog_12_method_26_code 2 = .ok (.iload_n 1, 1) := by decide +kernel
theorem d_Mo_freeFile_3 : decode prog_12_method_26_code 3 = .ok (.bipush 16, 2) := by decide +kernel
theorem d_Mo_freeFile_5 : decode prog_12_method_26_code 5 = .ok (.if_icmp .ge 18, 3) := by decide +kernel
theorem d_Mo_freeFile_8 : decode prog_12_method_26_code 8 = .ok (.aload_n 0, 1) := by decide +kernel
theorem d_Mo_freeFile_9 : decode prog_12_method_26_code 9 = .ok (.getfield 40, 3) := by decide +kernel
theorem d_Mo_freeFile_12 : decode prog_12_method_26_code 12 = .ok (.iload_n 1, 1) := by decide +kernel
theorem d_Mo_freeFile_13 : decode prog_12_method_26_code 13 = .ok (.baload, 1) := by decide +kernel
theorem d_Mo_freeFile_14 : decode prog_12_method_26_code 14 = .ok (.ifCond .eq 9, 3) := by decide +kernel
theorem d_Mo_freeFile_17 : decode prog_12_method_26_code 17 = .ok (.iinc 1 1, 3) := by decide +kernel
theorem d_Mo_freeFile_20 : decode prog_12_method_26_code 20 = .ok (.goto (-18), 3) := by decide +kernel
theorem d_Mo_freeFile_23 : decode prog_12_method_26_code 23 = .ok (.iload_n 1, 1) := by decide +kernel
theorem d_Mo_freeFile_24 : decode prog_12_method_26_code 24 = .ok (.ireturn, 1) := by decide +kernel
theorem d_Mo_append_0 : decode prog_12_method_27_code 0 = .ok (.aload_n 0, 1) := by decide +kernel
theorem d_Mo_append_1 : decode prog_12_method_27_code 1 = .ok (.iconst 0, 1) := by decide +kernel
theorem d_Mo_append_2 : decode prog_12_method_27_code 2 = .ok (.putfield 78, 3) := by decide +kernel
theorem d_Mo_append_5 : decode prog_12_method_27_code 5 = .ok (.aload_n 0, 1) := by decide +kernel
theorem d_Mo_append_6 : decode prog_12_method_27_code 6 = .ok (.getfield 132, 3) := by decide +kernel
theorem d_Mo_append_9 : decode prog_12_method_27_code 9 = .ok (.istore_n 3, 1) := by decide +kernel
theorem d_Mo_append_10 : decode prog_12_method_27_code 10 = .ok (.aload_n 0, 1) := by decide +kernel
theorem d_Mo_append_11 : decode prog_12_method_27_code 11 = .ok (.iconst 0, 1) := by decide +kernel
theorem d_Mo_append_12 : decode prog_12_method_27_code 12 = .ok (.putfield 132, 3) := by decide +kernel
theorem d_Mo_append_15 : decode prog_12_method_27_code 15 = .ok (.iload_n 1, 1) := by decide +kernel
theorem d_Mo_append_16 : decode prog_12_method_27_code 16 = .ok (.aload_n 0, 1) := by decide +kernel
theorem d_Mo_append_17 : decode prog_12_method_27_code 17 = .ok (.aload_n 0, 1) := by decide +kernel
theorem d_Mo_append_18 : decode prog_12_method_27_code 18 = .ok (.getfield 169, 3) := by decide +kernel
theorem d_Mo_append_21 : decode prog_12_method_27_code 21 = .ok (.invokevirtual 172, 3) := by decide +kernel
theorem d_Mo_append_24 : decode prog_12_method_27_code 24 = .ok (.ldc 138, 2) := by decide +kernel
theorem d_Mo_append_26 : decode prog_12_method_27_code 26 = .ok (.invokestatic 125, 3) := by decide +kernel
theorem d_Mo_append_29 : decode prog_12_method_27_code 29 = .ok (.ifCond .eq 12, 3) := by decide +kernel
theorem d_Mo_append_32 : decode prog_12_method_27_code 32 = .ok (.iload_n 2, 1) := by decide +kernel
theorem d_Mo_append_33 : decode prog_12_method_27_code 33 = .ok (.iconst 0, 1) := by decide +kernel
theorem d_Mo_append_34 : decode prog_12_method_27_code 34 = .ok (.iconst 2, 1) := by decide +kernel
theorem d_Mo_append_35 : decode prog_12_method_27_code 35 = .ok (.invokestatic 125, 3) := by decide +kernel
theorem d_Mo_append_38 : decode prog_12_method_27_code 38 = .ok (.ifCond .ne 9, 3) := by decide +kernel
theorem d_Mo_append_41 : decode prog_12_method_27_code 41 = .ok (.aload_n 0, 1) := by decide +kernel
theorem d_Mo_append_42 : decode prog_12_method_27_code 42 = .ok (.iconst 1, 1) := by decide +kernel
theorem d_Mo_append_43 : decode prog_12_method_27_code 43 = .ok (.invokevirtual 129, 3) := by decide +kernel
theorem d_Mo_append_46 : decode prog_12_method_27_code 46 = .ok (.ireturn, 1) := by decide +kernel
theorem d_Mo_append_47 : decode prog_12_method_27_code 47 = .ok (.aload_n 0, 1) := by decide +kernel
theorem d_Mo_append_48 : decode prog_12_method_27_code 48 = .ok (.getfield 169, 3) := by decide +kernel
theorem d_Mo_append_51 : decode prog_12_method_27_code 51 = .ok (.aload_n 0, 1) := by decide +kernel
theorem d_Mo_append_52 : decode prog_12_method_27_code 52 = .ok (.getfield 163, 3) := by decide +kernel
theorem d_Mo_append_55 : decode prog_12_method_27_code 55 = .ok (.isub, 1) := by decide +kernel
theorem d_Mo_append_56 : decode prog_12_method_27_code 56 = .ok (.sipush 300, 3) := by decide +kernel
theorem d_Mo_append_59 : decode prog_12_method_27_code 59 = .ok (.if_icmp .ne 9, 3) := by decide +kernel
theorem d_Mo_append_62 : decode prog_12_method_27_code 62 = .ok (.aload_n 0, 1) := by decide +kernel
theorem d_Mo_append_63 : decode prog_12_method_27_code 63 = .ok (.iconst 2, 1) := by decide +kernel
theorem d_Mo_append_64 : decode prog_12_method_27_code 64 = .ok (.invokevirtual 129, 3) := by decide +kernel
theorem d_Mo_append_67 : decode prog_12_method_27_code 67 = .ok (.ireturn, 1) := by decide +kernel
theorem d_Mo_append_68 : decode prog_12_method_27_code 68 = .ok (.aload_n 0, 1) := by decide +kernel
theorem d_Mo_append_69 : decode prog_12_method_27_code 69 = .ok (.getfield 175, 3) := by decide +kernel
theorem d_Mo_append_72 : decode prog_12_method_27_code 72 = .ok (.ifCond .le 29, 3) := by decide +kernel
theorem d_Mo_append_75 : decode prog_12_method_27_code 75 = .ok (.aload_n 0, 1) := by decide +kernel
theorem d_Mo_append_76 : decode prog_12_method_27_code 76 = .ok (.getfield 37, 3) := by decide +kernel
theorem d_Mo_append_79 : decode prog_12_method_27_code 79 = .ok (.aload_n 0, 1) := by decide +kernel
theorem d_Mo_append_80 : decode prog_12_method_27_code 80 = .ok (.getfield 57, 3) := by decide +kernel
theorem d_Mo_append_83 : decode prog_12_method_27_code 83 = .ok (.aload_n 0, 1) := by decide +kernel
theorem d_Mo_append_84 : decode prog_12_method_27_code 84 = .ok (.getfield 175, 3) := by decide +kernel
theorem d_Mo_append_87 : decode prog_12_method_27_code 87 = .ok (.iconst 1, 1) := by decide +kernel
theorem d_Mo_append_88 : decode prog_12_method_27_code 88 = .ok (.isub, 1) := by decide +kernel
theorem d_Mo_append_89 : decode prog_12_method_27_code 89 = .ok (.iaload, 1) := by decide +kernel
theorem d_Mo_append_90 : decode prog_12_method_27_code 90 = .ok (.iaload, 1) := by decide +kernel
theorem d_Mo_append_91 : decode prog_12_method_27_code 91 = .ok (.sipush 8000, 3) := by decide +kernel
theorem d_Mo_append_94 : decode prog_12_method_27_code 94 = .ok (.if_icmp .gt 7, 3) := by decide +kernel
theorem d_Mo_append_97 : decode prog_12_method_27_code 97 = .ok (.iconst 1, 1) := by decide +kernel
theorem d_Mo_append_98 : decode prog_12_method_27_code 98 = .ok (.goto 4, 3) := by decide +kernel
theorem d_Mo_append_101 : decode prog_12_method_27_code 101 = .ok (.iconst 0, 1) := by decide +kernel
theorem d_Mo_append_102 : decode prog_12_method_27_code 102 = .ok (.istore 4, 2) := by decide +kernel
theorem d_Mo_append_104 : decode prog_12_method_27_code 104 = .ok (.iload 4, 2) := by decide +kernel
theorem d_Mo_append_106 : decode prog_12_method_27_code 106 = .ok (.ifCond .eq 17, 3) := by decide +kernel
theorem d_Mo_append_109 : decode prog_12_method_27_code 109 = .ok (.aload_n 0, 1) := by decide +kernel
theorem d_Mo_append_110 : decode prog_12_method_27_code 110 = .ok (.getfield 57, 3) := by decide +kernel
theorem d_Mo_append_113 : decode prog_12_method_27_code 113 = .ok (.aload_n 0, 1) := by decide +kernel
theorem d_Mo_append_114 : decode prog_12_method_27_code 114 = .ok (.getfield 175, 3) := by decide +kernel
theorem d_Mo_append_117 : decode prog_12_method_27_code 117 = .ok (.iconst 1, 1) := by decide +kernel
theorem d_Mo_append_118 : decode prog_12_method_27_code 118 = .ok (.isub, 1) := by decide +kernel
theorem d_Mo_append_119 : decode prog_12_method_27_code 119 = .ok (.iaload, 1) := by decide +kernel
theorem d_Mo_append_120 : decode prog_12_method_27_code 120 = .ok (.goto 7, 3) := by decide +kernel
theorem d_Mo_append_123 : decode prog_12_method_27_code 123 = .ok (.aload_n 0, 1) := by decide +kernel
theorem d_Mo_append_124 : decode prog_12_method_27_code 124 = .ok (.invokevirtual 178, 3) := by decide +kernel
theorem d_Mo_append_127 : decode prog_12_method_27_code 127 = .ok (.istore 5, 2) := by decide +kernel
theorem d_Mo_append_129 : decode prog_12_method_27_code 129 = .ok (.iload 5, 2) := by decide +kernel
theorem d_Mo_append_131 : decode prog_12_method_27_code 131 = .ok (.bipush 16, 2) := by decide +kernel
theorem d_Mo_append_133 : decode prog_12_method_27_code 133 = .ok (.if_icmp .eq 28, 3) := by decide +kernel
theorem d_Mo_append_136 : decode prog_12_method_27_code 136 = .ok (.aload_n 0, 1) := by decide +kernel
theorem d_Mo_append_137 : decode prog_12_method_27_code 137 = .ok (.iload 5, 2) := by decide +kernel
theorem d_Mo_append_139 : decode prog_12_method_27_code 139 = .ok (.bipush 25, 2) := by decide +kernel
theorem d_Mo_append_141 : decode prog_12_method_27_code 141 = .ok (.iload_n 3, 1) := by decide +kernel
theorem d_Mo_append_142 : decode prog_12_method_27_code 142 = .ok (.iadd, 1) := by decide +kernel
theorem d_Mo_append_143 : decode prog_12_method_27_code 143 = .ok (.iload 4, 2) := by decide +kernel
theorem d_Mo_append_145 : decode prog_12_method_27_code 145 = .ok (.ifCond .eq 7, 3) := by decide +kernel
theorem d_Mo_append_148 : decode prog_12_method_27_code 148 = .ok (.iconst 0, 1) := by decide +kernel
theorem d_Mo_append_149 : decode prog_12_method_27_code 149 = .ok (.goto 5, 3) := by decide +kernel
theorem d_Mo_append_152 : decode prog_12_method_27_code 152 = .ok (.bipush 24, 2) := by decide +kernel
theorem d_Mo_append_154 : decode prog_12_method_27_code 154 = .ok (.iadd, 1) := by decide +kernel
theorem d_Mo_append_155 : decode prog_12_method_27_code 155 = .ok (.invokevirtual 181, 3) := by decide +kernel
theorem d_Mo_append_158 : decode prog_12_method_27_code 158 = .ok (.ifCond .ne 9, 3) := by decide +kernel
theorem d_Mo_append_161 : decode prog_12_method_27_code 161 = .ok (.aload_n 0, 1) := by decide +kernel
theorem d_Mo_append_162 : decode prog_12_method_27_code 162 = .ok (.iconst 3, 1) := by decide +kernel
theorem d_Mo_append_163 : decode prog_12_method_27_code 163 = .ok (.invokevirtual 129, 3) := by decide +kernel
theorem d_Mo_append_166 : decode prog_12_method_27_code 166 = .ok (.ireturn, 1) := by decide +kernel
theorem d_Mo_append_167 : decode prog_12_method_27_code 167 = .ok (.iload 4, 2) := by decide +kernel
theorem d_Mo_append_169 : decode prog_12_method_27_code 169 = .ok (.ifCond .ne 54, 3) := by decide +kernel
theorem d_Mo_append_172 : decode prog_12_method_27_code 172 = .ok (.aload_n 0, 1) := by decide +kernel
theorem d_Mo_append_173 : decode prog_12_method_27_code 173 = .ok (.iconst 2, 1) := by decide +kernel
theorem d_Mo_append_174 : decode prog_12_method_27_code 174 = .ok (.aload_n 0, 1) := by decide +kernel
theorem d_Mo_append_175 : decode prog_12_method_27_code 175 = .ok (.getfield 169, 3) := by decide +kernel
theorem d_Mo_append_178 : decode prog_12_method_27_code 178 = .ok (.iconst 1, 1) := by decide +kernel
theorem d_Mo_append_179 : decode prog_12_method_27_code 179 = .ok (.iadd, 1) := by decide +kernel
theorem d_Mo_append_180 : decode prog_12_method_27_code 180 = .ok (.aload_n 0, 1) := by decide +kernel
theorem d_Mo_append_181 : decode prog_12_method_27_code 181 = .ok (.aload_n 0, 1) := by decide +kernel
theorem d_Mo_append_182 : decode prog_12_method_27_code 182 = .ok (.getfield 169, 3) := by decide +kernel
theorem d_Mo_append_185 : decode prog_12_method_27_code 185 = .ok (.invokevirtual 172, 3) := by decide +kernel
theorem d_Mo_append_188 : decode prog_12_method_27_code 188 = .ok (.iconst 0, 1) := by decide +kernel
theorem d_Mo_append_189 : decode prog_12_method_27_code 189 = .ok (.invokevirtual 153, 3) := by decide +kernel
theorem d_Mo_append_192 : decode prog_12_method_27_code 192 = .ok (.istore 6, 2) := by decide +kernel
theorem d_Mo_append_194 : decode prog_12_method_27_code 194 = .ok (.aload_n 0, 1) := by decide +kernel
theorem d_Mo_append_195 : decode prog_12_method_27_code 195 = .ok (.iload 5, 2) := by decide +kernel
theorem d_Mo_append_197 : decode prog_12_method_27_code 197 = .ok (.iload 6, 2) := by decide +kernel
theorem d_Mo_append_199 : decode prog_12_method_27_code 199 = .ok (.invokevirtual 157, 3) := by decide +kernel
theorem d_Mo_append_202 : decode prog_12_method_27_code 202 = .ok (.aload_n 0, 1) := by decide +kernel
theorem d_Mo_append_203 : decode prog_12_method_27_code 203 = .ok (.getfield 57, 3) := by decide +kernel
theorem d_Mo_append_206 : decode prog_12_method_27_code 206 = .ok (.aload_n 0, 1) := by decide +kernel
theorem d_Mo_append_207 : decode prog_12_method_27_code 207 = .ok (.getfield 175, 3) := by decide +kernel
theorem d_Mo_append_210 : decode prog_12_method_27_code 210 = .ok (.iload 5, 2) := by decide +kernel
theorem d_Mo_append_212 : decode prog_12_method_27_code 212 = .ok (.iastore, 1) := by decide +kernel
theorem d_Mo_append_213 : decode prog_12_method_27_code 213 = .ok (.aload_n 0, 1) := by decide +kernel
theorem d_Mo_append_214 : decode prog_12_method_27_code 214 = .ok (.dup, 1) := by decide +kernel
theorem d_Mo_append_215 : decode prog_12_method_27_code 215 = .ok (.getfield 175, 3) := by decide +kernel
theorem d_Mo_append_218 : decode prog_12_method_27_code 218 = .ok (.iconst 1, 1) := by decide +kernel
theorem d_Mo_append_219 : decode prog_12_method_27_code 219 = .ok (.iadd, 1) := by decide +kernel
theorem d_Mo_append_220 : decode prog_12_method_27_code 220 = .ok (.putfield 175, 3) := by decide +kernel
theorem d_Mo_append_223 : decode prog_12_method_27_code 223 = .ok (.aload_n 0, 1) := by decide +kernel
theorem d_Mo_append_224 : decode prog_12_method_27_code 224 = .ok (.iconst 3, 1) := by decide +kernel
theorem d_Mo_append_225 : decode prog_12_method_27_code 225 = .ok (.aload_n 0, 1) := by decide +kernel
theorem d_Mo_append_226 : decode prog_12_method_27_code 226 = .ok (.getfield 169, 3) := by decide +kernel
theorem d_Mo_append_229 : decode prog_12_method_27_code 229 = .ok (.iconst 1, 1) := by decide +kernel
theorem d_Mo_append_230 : decode prog_12_method_27_code 230 = .ok (.iadd, 1) := by decide +kernel
theorem d_Mo_append_231 : decode prog_12_method_27_code 231 = .ok (.iload_n 1, 1) := by decide +kernel
theorem d_Mo_append_232 : decode prog_12_method_27_code 232 = .ok (.iload_n 2, 1) := by decide +kernel
theorem d_Mo_append_233 : decode prog_12_method_27_code 233 = .ok (.invokevirtual 153, 3) := by decide +kernel
theorem d_Mo_append_236 : decode prog_12_method_27_code 236 = .ok (.istore 6, 2) := by decide +kernel
theorem d_Mo_append_238 : decode prog_12_method_27_code 238 = .ok (.aload_n 0, 1) := by decide +kernel
theorem d_Mo_append_239 : decode prog_12_method_27_code 239 = .ok (.iload 6, 2) := by decide +kernel
theorem d_Mo_append_241 : decode prog_12_method_27_code 241 = .ok (.iload_n 3, 1) := by decide +kernel
theorem d_Mo_append_242 : decode prog_12_method_27_code 242 = .ok (.invokevirtual 184, 3) := by decide +kernel
theorem d_Mo_append_245 : decode prog_12_method_27_code 245 = .ok (.aload_n 0, 1) := by decide +kernel
theorem d_Mo_append_246 : decode prog_12_method_27_code 246 = .ok (.iload 5, 2) := by decide +kernel
theorem d_Mo_append_248 : decode prog_12_method_27_code 248 = .ok (.iload 6, 2) := by decide +kernel
theorem d_Mo_append_250 : decode prog_12_method_27_code 250 = .ok (.invokevirtual 157, 3) := by decide +kernel
theorem d_Mo_append_253 : decode prog_12_method_27_code 253 = .ok (.aload_n 0, 1) := by decide +kernel
theorem d_Mo_append_254 : decode prog_12_method_27_code 254 = .ok (.getfield 60, 3) := by decide +kernel
theorem d_Mo_append_257 : decode prog_12_method_27_code 257 = .ok (.aload_n 0, 1) := by decide +kernel
theorem d_Mo_append_258 : decode prog_12_method_27_code 258 = .ok (.getfield 169, 3) := by decide +kernel
theorem d_Mo_append_261 : decode prog_12_method_27_code 261 = .ok (.aload_n 0, 1) := by decide +kernel
theorem d_Mo_append_262 : decode prog_12_method_27_code 262 = .ok (.getfield 163, 3) := by decide +kernel
theorem d_Mo_append_265 : decode prog_12_method_27_code 265 = .ok (.isub, 1) := by decide +kernel
theorem d_Mo_append_266 : decode prog_12_method_27_code 266 = .ok (.iload 6, 2) := by decide +kernel
theorem d_Mo_append_268 : decode prog_12_method_27_code 268 = .ok (.iastore, 1) := by decide +kernel
theorem d_Mo_append_269 : decode prog_12_method_27_code 269 = .ok (.aload_n 0, 1) := by decide +kernel
theorem d_Mo_append_270 : decode prog_12_method_27_code 270 = .ok (.dup, 1) := by decide +kernel
theorem d_Mo_append_271 : decode prog_12_method_27_code 271 = .ok (.getfield 169, 3) := by decide +kernel
theorem d_Mo_append_274 : decode prog_12_method_27_code 274 = .ok (.iconst 1, 1) := by decide +kernel
theorem d_Mo_append_275 : decode prog_12_method_27_code 275 = .ok (.iadd, 1) := by decide +kernel
theorem d_Mo_append_276 : decode prog_12_method_27_code 276 = .ok (.putfield 169, 3) := by decide +kernel
theorem d_Mo_append_279 : decode prog_12_method_27_code 279 = .ok (.aload_n 0, 1) := by decide +kernel
theorem d_Mo_append_280 : decode prog_12_method_27_code 280 = .ok (.iconst 1, 1) := by decide +kernel
theorem d_Mo_append_281 : decode prog_12_method_27_code 281 = .ok (.putfield 160, 3) := by decide +kernel
theorem d_Mo_append_284 : decode prog_12_method_27_code 284 = .ok (.aload_n 0, 1) := by decide +kernel
theorem d_Mo_append_285 : decode prog_12_method_27_code 285 = .ok (.getfield 169, 3) := by decide +kernel
theorem d_Mo_append_288 : decode prog_12_method_27_code 288 = .ok (.ireturn, 1) := by decide +kernel
theorem d_Mo_firstOf_0 : decode prog_12_method_28_code 0 = .ok (.aload_n 0, 1) := by decide +kernel
theorem d_Mo_firstOf_1 : decode prog_12_method_28_code 1 = .ok (.getfield 13, 3) := by decide +kernel
theorem d_Mo_firstOf_4 : decode prog_12_method_28_code 4 = .ok (.aload_n 0, 1) := by decide +kernel
theorem d_Mo_firstOf_5 : decode prog_12_method_28_code 5 = .ok (.getfield 31, 3) := by decide +kernel
theorem d_Mo_firstOf_8 : decode prog_12_method_28_code 8 = .ok (.sipush 330, 3) := by decide +kernel
theorem d_Mo_firstOf_11 : decode prog_12_method_28_code 11 = .ok (.iload_n 1, 1) := by decide +kernel
theorem d_Mo_firstOf_12 : decode prog_12_method_28_code 12 = .ok (.imul, 1) := by decide +kernel
theorem d_Mo_firstOf_13 : decode prog_12_method_28_code 13 = .ok (.iaload, 1) := by decide +kernel
theorem d_Mo_firstOf_14 : decode prog_12_method_28_code 14 = .ok (.iaload, 1) := by decide +kernel
theorem d_Mo_firstOf_15 : decode prog_12_method_28_code 15 = .ok (.ireturn, 1) := by decide +kernel
theorem d_Mo_placeIn_0 : decode prog_12_method_29_code 0 = .ok (.iconst 0, 1) := by decide +kernel
theorem d_Mo_placeIn_1 : decode prog_12_method_29_code 1 = .ok (.istore_n 3, 1) := by decide +kernel
theorem d_Mo_placeIn_2 : decode prog_12_method_29_code 2 = .ok (.iconst 0, 1) := by decide +kernel
theorem d_Mo_placeIn_3 : decode prog_12_method_29_code 3 = .ok (.istore 4, 2) := by decide +kernel
theorem d_Mo_placeIn_5 : decode prog_12_method_29_code 5 = .ok (.iload 4, 2) := by decide +kernel
theorem d_Mo_placeIn_7 : decode prog_12_method_29_code 7 = .ok (.aload_n 0, 1) := by decide +kernel
theorem d_Mo_placeIn_8 : decode prog_12_method_29_code 8 = .ok (.getfield 34, 3) := by decide +kernel
theorem d_Mo_placeIn_11 : decode prog_12_method_29_code 11 = .ok (.iload_n 1, 1) := by decide +kernel
theorem d_Mo_placeIn_12 : decode prog_12_method_29_code 12 = .ok (.iaload, 1) := by decide +kernel
theorem d_Mo_placeIn_13 : decode prog_12_method_29_code 13 = .ok (.if_icmp .ge 48, 3) := by decide +kernel
theorem d_Mo_placeIn_16 : decode prog_12_method_29_code 16 = .ok (.aload_n 0, 1) := by decide +kernel
theorem d_Mo_placeIn_17 : decode prog_12_method_29_code 17 = .ok (.getfield 31, 3) := by decide +kernel
theorem d_Mo_placeIn_20 : decode prog_12_method_29_code 20 = .ok (.sipush 330, 3) := by decide +kernel
theorem d_Mo_placeIn_23 : decode prog_12_method_29_code 23 = .ok (.iload_n 1, 1) := by decide +kernel
theorem d_Mo_placeIn_24 : decode prog_12_method_29_code 24 = .ok (.imul, 1) := by decide +kernel
theorem d_Mo_placeIn_25 : decode prog_12_method_29_code 25 = .ok (.iload 4, 2) := by decide +kernel
theorem d_Mo_placeIn_27 : decode prog_12_method_29_code 27 = .ok (.iadd, 1) := by decide +kernel
theorem d_Mo_placeIn_28 : decode prog_12_method_29_code 28 = .ok (.iaload, 1) := by decide +kernel
theorem d_Mo_placeIn_29 : decode prog_12_method_29_code 29 = .ok (.iload_n 2, 1) := by decide +kernel
theorem d_Mo_placeIn_30 : decode prog_12_method_29_code 30 = .ok (.if_icmp .ne 5, 3) := by decide +kernel
theorem d_Mo_placeIn_33 : decode prog_12_method_29_code 33 = .ok (.iload_n 3, 1) := by decide +kernel
theorem d_Mo_placeIn_34 : decode prog_12_method_29_code 34 = .ok (.ireturn, 1) := by decide +kernel
theorem d_Mo_placeIn_35 : decode prog_12_method_29_code 35 = .ok (.iload_n 3, 1) := by decide +kernel
theorem d_Mo_placeIn_36 : decode prog_12_method_29_code 36 = .ok (.aload_n 0, 1) := by decide +kernel
theorem d_Mo_placeIn_37 : decode prog_12_method_29_code 37 = .ok (.aload_n 0, 1) := by decide +kernel
theorem d_Mo_placeIn_38 : decode prog_12_method_29_code 38 = .ok (.getfield 31, 3) := by decide +kernel
theorem d_Mo_placeIn_41 : decode prog_12_method_29_code 41 = .ok (.sipush 330, 3) := by decide +kernel
theorem d_Mo_placeIn_44 : decode prog_12_method_29_code 44 = .ok (.iload_n 1, 1) := by decide +kernel
theorem d_Mo_placeIn_45 : decode prog_12_method_29_code 45 = .ok (.imul, 1) := by decide +kernel
theorem d_Mo_placeIn_46 : decode prog_12_method_29_code 46 = .ok (.iload 4, 2) := by decide +kernel
theorem d_Mo_placeIn_48 : decode prog_12_method_29_code 48 = .ok (.iadd, 1) := by decide +kernel
theorem d_Mo_placeIn_49 : decode prog_12_method_29_code 49 = .ok (.iaload, 1) := by decide +kernel
theorem d_Mo_placeIn_50 : decode prog_12_method_29_code 50 = .ok (.invokevirtual 115, 3) := by decide +kernel
theorem d_Mo_placeIn_53 : decode prog_12_method_29_code 53 = .ok (.iadd, 1) := by decide +kernel
theorem d_Mo_placeIn_54 : decode prog_12_method_29_code 54 = .ok (.istore_n 3, 1) := by decide +kernel
theorem d_Mo_placeIn_55 : decode prog_12_method_29_code 55 = .ok (.iinc 4 1, 3) := by decide +kernel
theorem d_Mo_placeIn_58 : decode prog_12_method_29_code 58 = .ok (.goto (-53), 3) := by decide +kernel
theorem d_Mo_placeIn_61 : decode prog_12_method_29_code 61 = .ok (.iconst (-1), 1) := by decide +kernel
theorem d_Mo_placeIn_62 : decode prog_12_method_29_code 62 = .ok (.ireturn, 1) := by decide +kernel
theorem d_Mo_cutFrom_0 : decode prog_12_method_30_code 0 = .ok (.aload_n 0, 1) := by decide +kernel
theorem d_Mo_cutFrom_1 : decode prog_12_method_30_code 1 = .ok (.iconst 0, 1) := by decide +kernel
theorem d_Mo_cutFrom_2 : decode prog_12_method_30_code 2 = .ok (.putfield 78, 3) := by decide +kernel
theorem d_Mo_cutFrom_5 : decode prog_12_method_30_code 5 = .ok (.iload_n 1, 1) := by decide +kernel
theorem d_Mo_cutFrom_6 : decode prog_12_method_30_code 6 = .ok (.aload_n 0, 1) := by decide +kernel
theorem d_Mo_cutFrom_7 : decode prog_12_method_30_code 7 = .ok (.getfield 163, 3) := by decide +kernel
theorem d_Mo_cutFrom_10 : decode prog_12_method_30_code 10 = .ok (.iconst 1, 1) := by decide +kernel
theorem d_Mo_cutFrom_11 : decode prog_12_method_30_code 11 = .ok (.iadd, 1) := by decide +kernel
theorem d_Mo_cutFrom_12 : decode prog_12_method_30_code 12 = .ok (.aload_n 0, 1) := by decide +kernel
theorem d_Mo_cutFrom_13 : decode prog_12_method_30_code 13 = .ok (.getfield 169, 3) := by decide +kernel
theorem d_Mo_cutFrom_16 : decode prog_12_method_30_code 16 = .ok (.invokestatic 125, 3) := by decide +kernel
theorem d_Mo_cutFrom_19 : decode prog_12_method_30_code 19 = .ok (.ifCond .ne 9, 3) := by decide +kernel
theorem d_Mo_cutFrom_22 : decode prog_12_method_30_code 22 = .ok (.aload_n 0, 1) := by decide +kernel
theorem d_Mo_cutFrom_23 : decode prog_12_method_30_code 23 = .ok (.iconst 1, 1) := by decide +kernel
theorem d_Mo_cutFrom_24 : decode prog_12_method_30_code 24 = .ok (.invokevirtual 129, 3) := by decide +kernel
theorem d_Mo_cutFrom_27 : decode prog_12_method_30_code 27 = .ok (.ireturn, 1) := by decide +kernel
theorem d_Mo_cutFrom_28 : decode prog_12_method_30_code 28 = .ok (.aload_n 0, 1) := by decide +kernel
theorem d_Mo_cutFrom_29 : decode prog_12_method_30_code 29 = .ok (.getfield 169, 3) := by decide +kernel
theorem d_Mo_cutFrom_32 : decode prog_12_method_30_code 32 = .ok (.iload_n 1, 1) := by decide +kernel
theorem d_Mo_cutFrom_33 : decode prog_12_method_30_code 33 = .ok (.isub, 1) := by decide +kernel
theorem d_Mo_cutFrom_34 : decode prog_12_method_30_code 34 = .ok (.iconst 1, 1) := by decide +kernel
theorem d_Mo_cutFrom_35 : decode prog_12_method_30_code 35 = .ok (.iadd, 1) := by decide +kernel
theorem d_Mo_cutFrom_36 : decode prog_12_method_30_code 36 = .ok (.istore_n 2, 1) := by decide +kernel
theorem d_Mo_cutFrom_37 : decode prog_12_method_30_code 37 = .ok (.aload_n 0, 1) := by decide +kernel
theorem d_Mo_cutFrom_38 : decode prog_12_method_30_code 38 = .ok (.getfield 175, 3) := by decide +kernel
theorem d_Mo_cutFrom_41 : decode prog_12_method_30_code 41 = .ok (.ifCond .le 50, 3) := by decide +kernel
theorem d_Mo_cutFrom_44 : decode prog_12_method_30_code 44 = .ok (.aload_n 0, 1) := by decide +kernel
theorem d_Mo_cutFrom_45 : decode prog_12_method_30_code 45 = .ok (.aload_n 0, 1) := by decide +kernel
theorem d_Mo_cutFrom_46 : decode prog_12_method_30_code 46 = .ok (.getfield 57, 3) := by decide +kernel
theorem d_Mo_cutFrom_49 : decode prog_12_method_30_code 49 = .ok (.aload_n 0, 1) := by decide +kernel
theorem d_Mo_cutFrom_50 : decode prog_12_method_30_code 50 = .ok (.getfield 175, 3) := by decide +kernel
theorem d_Mo_cutFrom_53 : decode prog_12_method_30_code 53 = .ok (.iconst 1, 1) := by decide +kernel
theorem d_Mo_cutFrom_54 : decode prog_12_method_30_code 54 = .ok (.isub, 1) := by decide +kernel
theorem d_Mo_cutFrom_55 : decode prog_12_method_30_code 55 = .ok (.iaload, 1) := by decide +kernel
theorem d_Mo_cutFrom_56 : decode prog_12_method_30_code 56 = .ok (.invokevirtual 187, 3) := by decide +kernel
theorem d_Mo_cutFrom_59 : decode prog_12_method_30_code 59 = .ok (.iload_n 1, 1) := by decide +kernel
theorem d_Mo_cutFrom_60 : decode prog_12_method_30_code 60 = .ok (.if_icmp .lt 31, 3) := by decide +kernel
theorem d_Mo_cutFrom_63 : decode prog_12_method_30_code 63 = .ok (.aload_n 0, 1) := by decide +kernel
theorem d_Mo_cutFrom_64 : decode prog_12_method_30_code 64 = .ok (.aload_n 0, 1) := by decide +kernel
theorem d_Mo_cutFrom_65 : decode prog_12_method_30_code 65 = .ok (.getfield 57, 3) := by decide +kernel
theorem d_Mo_cutFrom_68 : decode prog_12_method_30_code 68 = .ok (.aload_n 0, 1) := by decide +kernel
theorem d_Mo_cutFrom_69 : decode prog_12_method_30_code 69 = .ok (.getfield 175, 3) := by decide +kernel
theorem d_Mo_cutFrom_72 : decode prog_12_method_30_code 72 = .ok (.iconst 1, 1) := by decide +kernel
theorem d_Mo_cutFrom_73 : decode prog_12_method_30_code 73 = .ok (.isub, 1) := by decide +kernel
theorem d_Mo_cutFrom_74 : decode prog_12_method_30_code 74 = .ok (.iaload, 1) := by decide +kernel
theorem d_Mo_cutFrom_75 : decode prog_12_method_30_code 75 = .ok (.invokevirtual 190, 3) := by decide +kernel
theorem d_Mo_cutFrom_78 : decode prog_12_method_30_code 78 = .ok (.aload_n 0, 1) := by decide +kernel
theorem d_Mo_cutFrom_79 : decode prog_12_method_30_code 79 = .ok (.dup, 1) := by decide +kernel
theorem d_Mo_cutFrom_80 : decode prog_12_method_30_code 80 = .ok (.getfield 175, 3) := by decide +kernel
theorem d_Mo_cutFrom_83 : decode prog_12_method_30_code 83 = .ok (.iconst 1, 1) := by decide +kernel
theorem d_Mo_cutFrom_84 : decode prog_12_method_30_code 84 = .ok (.isub, 1) := by decide +kernel
theorem d_Mo_cutFrom_85 : decode prog_12_method_30_code 85 = .ok (.putfield 175, 3) := by decide +kernel
theorem d_Mo_cutFrom_88 : decode prog_12_method_30_code 88 = .ok (.goto (-51), 3) := by decide +kernel
theorem d_Mo_cutFrom_91 : decode prog_12_method_30_code 91 = .ok (.aload_n 0, 1) := by decide +kernel
theorem d_Mo_cutFrom_92 : decode prog_12_method_30_code 92 = .ok (.getfield 175, 3) := by decide +kernel
theorem d_Mo_cutFrom_95 : decode prog_12_method_30_code 95 = .ok (.ifCond .le 47, 3) := by decide +kernel
theorem d_Mo_cutFrom_98 : decode prog_12_method_30_code 98 = .ok (.aload_n 0, 1) := by decide +kernel
theorem d_Mo_cutFrom_99 : decode prog_12_method_30_code 99 = .ok (.getfield 57, 3) := by decide +kernel
theorem d_Mo_cutFrom_102 : decode prog_12_method_30_code 102 = .ok (.aload_n 0, 1) := by decide +kernel
theorem d_Mo_cutFrom_103 : decode prog_12_method_30_code 103 = .ok (.getfield 175, 3) := by decide +kernel
theorem d_Mo_cutFrom_106 : decode prog_12_method_30_code 106 = .ok (.iconst 1, 1) := by decide +kernel
theorem d_Mo_cutFrom_107 : decode prog_12_method_30_code 107 = .ok (.isub, 1) := by decide +kernel
theorem d_Mo_cutFrom_108 : decode prog_12_method_30_code 108 = .ok (.iaload, 1) := by decide +kernel
theorem d_Mo_cutFrom_109 : decode prog_12_method_30_code 109 = .ok (.istore_n 3, 1) := by decide +kernel
theorem d_Mo_cutFrom_110 : decode prog_12_method_30_code 110 = .ok (.aload_n 0, 1) := by decide +kernel
theorem d_Mo_cutFrom_111 : decode prog_12_method_30_code 111 = .ok (.iload_n 3, 1) := by decide +kernel
theorem d_Mo_cutFrom_112 : decode prog_12_method_30_code 112 = .ok (.aload_n 0, 1) := by decide +kernel
theorem d_Mo_cutFrom_113 : decode prog_12_method_30_code 113 = .ok (.getfield 60, 3) := by decide +kernel
theorem d_Mo_cutFrom_116 : decode prog_12_method_30_code 116 = .ok (.iload_n 1, 1) := by decide +kernel
theorem d_Mo_cutFrom_117 : decode prog_12_method_30_code 117 = .ok (.aload_n 0, 1) := by decide +kernel
theorem d_Mo_cutFrom_118 : decode prog_12_method_30_code 118 = .ok (.getfield 163, 3) := by decide +kernel
theorem d_Mo_cutFrom_121 : decode prog_12_method_30_code 121 = .ok (.isub, 1) := by decide +kernel
theorem d_Mo_cutFrom_122 : decode prog_12_method_30_code 122 = .ok (.iconst 1, 1) := by decide +kernel
theorem d_Mo_cutFrom_123 : decode prog_12_method_30_code 123 = .ok (.isub, 1) := by decide +kernel
theorem d_Mo_cutFrom_124 : decode prog_12_method_30_code 124 = .ok (.iaload, 1) := by decide +kernel
theorem d_Mo_cutFrom_125 : decode prog_12_method_30_code 125 = .ok (.invokevirtual 194, 3) := by decide +kernel
theorem d_Mo_cutFrom_128 : decode prog_12_method_30_code 128 = .ok (.istore 4, 2) := by decide +kernel
theorem d_Mo_cutFrom_130 : decode prog_12_method_30_code 130 = .ok (.iload 4, 2) := by decide +kernel
theorem d_Mo_cutFrom_132 : decode prog_12_method_30_code 132 = .ok (.ifCond .lt 10, 3) := by decide +kernel
theorem d_Mo_cutFrom_135 : decode prog_12_method_30_code 135 = .ok (.aload_n 0, 1) := by decide +kernel
theorem d_Mo_cutFrom_136 : decode prog_12_method_30_code 136 = .ok (.iload_n 3, 1) := by decide +kernel
theorem d_Mo_cutFrom_137 : decode prog_12_method_30_code 137 = .ok (.iload 4, 2) := by decide +kernel
theorem d_Mo_cutFrom_139 : decode prog_12_method_30_code 139 = .ok (.invokevirtual 118, 3) := by decide +kernel
theorem d_Mo_cutFrom_142 : decode prog_12_method_30_code 142 = .ok (.aload_n 0, 1) := by decide +kernel
theorem d_Mo_cutFrom_143 : decode prog_12_method_30_code 143 = .ok (.iload_n 1, 1) := by decide +kernel
theorem d_Mo_cutFrom_144 : decode prog_12_method_30_code 144 = .ok (.iconst 1, 1) := by decide +kernel
theorem d_Mo_cutFrom_145 : decode prog_12_method_30_code 145 = .ok (.isub, 1) := by decide +kernel
theorem d_Mo_cutFrom_146 : decode prog_12_method_30_code 146 = .ok (.putfield 169, 3) := by decide +kernel
theorem d_Mo_cutFrom_149 : decode prog_12_method_30_code 149 = .ok (.aload_n 0, 1) := by decide +kernel
theorem d_Mo_cutFrom_150 : decode prog_12_method_30_code 150 = .ok (.iconst 1, 1) := by decide +kernel
theorem d_Mo_cutFrom_151 : decode prog_12_method_30_code 151 = .ok (.putfield 160, 3) := by decide +kernel
theorem d_Mo_cutFrom_154 : decode prog_12_method_30_code 154 = .ok (.iload_n 2, 1) := by decide +kernel
theorem d_Mo_cutFrom_155 : decode prog_12_method_30_code 155 = .ok (.ireturn, 1) := by decide +kernel
theorem d_Mo_lastOf_0 : decode prog_12_method_31_code 0 = .ok (.aload_n 0, 1) := by decide +kernel
theorem d_Mo_lastOf_1 : decode prog_12_method_31_code 1 = .ok (.iload_n 1, 1) := by decide +kernel
theorem d_Mo_lastOf_2 : decode prog_12_method_31_code 2 = .ok (.invokevirtual 187, 3) := by decide +kernel
theorem d_Mo_lastOf_5 : decode prog_12_method_31_code 5 = .ok (.aload_n 0, 1) := by decide +kernel
theorem d_Mo_lastOf_6 : decode prog_12_method_31_code 6 = .ok (.getfield 34, 3) := by decide +kernel
theorem d_Mo_lastOf_9 : decode prog_12_method_31_code 9 = .ok (.iload_n 1, 1) := by decide +kernel
theorem d_Mo_lastOf_10 : decode prog_12_method_31_code 10 = .ok (.iaload, 1) := by decide +kernel
theorem d_Mo_lastOf_11 : decode prog_12_method_31_code 11 = .ok (.iadd, 1) := by decide +kernel
theorem d_Mo_lastOf_12 : decode prog_12_method_31_code 12 = .ok (.iconst 2, 1) := by decide +kernel
theorem d_Mo_lastOf_13 : decode prog_12_method_31_code 13 = .ok (.isub, 1) := by decide +kernel
theorem d_Mo_lastOf_14 : decode prog_12_method_31_code 14 = .ok (.ireturn, 1) := by decide +kernel
theorem d_Mo_rebase_0 : decode prog_12_method_32_code 0 = .ok (.iload_n 2, 1) := by decide +kernel
theorem d_Mo_rebase_1 : decode prog_12_method_32_code 1 = .ok (.istore_n 3, 1) := by decide +kernel
theorem d_Mo_rebase_2 : decode prog_12_method_32_code 2 = .ok (.iload_n 3, 1) := by decide +kernel
theorem d_Mo_rebase_3 : decode prog_12_method_32_code 3 = .ok (.aload_n 0, 1) := by decide +kernel
theorem d_Mo_rebase_4 : decode prog_12_method_32_code 4 = .ok (.getfield 169, 3) := by decide +kernel
theorem d_Mo_rebase_7 : decode prog_12_method_32_code 7 = .ok (.aload_n 0, 1) := by decide +kernel
theorem d_Mo_rebase_8 : decode prog_12_method_32_code 8 = .ok (.getfield 163, 3) := by decide +kernel
theorem d_Mo_rebase_11 : decode prog_12_method_32_code 11 = .ok (.isub, 1) := by decide +kernel
theorem d_Mo_rebase_12 : decode prog_12_method_32_code 12 = .ok (.if_icmp .ge 23, 3) := by decide +kernel
theorem d_Mo_rebase_15 : decode prog_12_method_32_code 15 = .ok (.aload_n 0, 1) := by decide +kernel
theorem d_Mo_rebase_16 : decode prog_12_method_32_code 16 = .ok (.getfield 60, 3) := by decide +kernel
theorem d_Mo_rebase_19 : decode prog_12_method_32_code 19 = .ok (.iload_n 3, 1) := by decide +kernel
theorem d_Mo_rebase_20 : decode prog_12_method_32_code 20 = .ok (.iload_n 2, 1) := by decide +kernel
theorem d_Mo_rebase_21 : decode prog_12_method_32_code 21 = .ok (.isub, 1) := by decide +kernel
theorem d_Mo_rebase_22 : decode prog_12_method_32_code 22 = .ok (.aload_n 0, 1) := by decide +kernel
theorem d_Mo_rebase_23 : decode prog_12_method_32_code 23 = .ok (.getfield 60, 3) := by decide +kernel
theorem d_Mo_rebase_26 : decode prog_12_method_32_code 26 = .ok (.iload_n 3, 1) := by decide +kernel
theorem d_Mo_rebase_27 : decode prog_12_method_32_code 27 = .ok (.iaload, 1) := by decide +kernel
theorem d_Mo_rebase_28 : decode prog_12_method_32_code 28 = .ok (.iastore, 1) := by decide +kernel
theorem d_Mo_rebase_29 : decode prog_12_method_32_code 29 = .ok (.iinc 3 1, 3) := by decide +kernel
theorem d_Mo_rebase_32 : decode prog_12_method_32_code 32 = .ok (.goto (-30), 3) := by decide +kernel
theorem d_Mo_rebase_35 : decode prog_12_method_32_code 35 = .ok (.aload_n 0, 1) := by decide +kernel
theorem d_Mo_rebase_36 : decode prog_12_method_32_code 36 = .ok (.iload_n 1, 1) := by decide +kernel
theorem d_Mo_rebase_37 : decode prog_12_method_32_code 37 = .ok (.putfield 163, 3) := by decide +kernel
theorem d_Mo_rebase_40 : decode prog_12_method_32_code 40 = .ok (.aload_n 0, 1) := by decide +kernel
theorem d_Mo_rebase_41 : decode prog_12_method_32_code 41 = .ok (.aload_n 0, 1) := by decide +kernel
theorem d_Mo_rebase_42 : decode prog_12_method_32_code 42 = .ok (.getfield 169, 3) := by decide +kernel
theorem d_Mo_rebase_45 : decode prog_12_method_32_code 45 = .ok (.iload_n 1, 1) := by decide +kernel
theorem d_Mo_rebase_46 : decode prog_12_method_32_code 46 = .ok (.if_icmp .ge 7, 3) := by decide +kernel
theorem d_Mo_rebase_49 : decode prog_12_method_32_code 49 = .ok (.iload_n 1, 1) := by decide +kernel
theorem d_Mo_rebase_50 : decode prog_12_method_32_code 50 = .ok (.goto 7, 3) := by decide +kernel
theorem d_Mo_rebase_53 : decode prog_12_method_32_code 53 = .ok (.aload_n 0, 1) := by decide +kernel
theorem d_Mo_rebase_54 : decode prog_12_method_32_code 54 = .ok (.getfield 169, 3) := by decide +kernel
theorem d_Mo_rebase_57 : decode prog_12_method_32_code 57 = .ok (.putfield 169, 3) := by decide +kernel
theorem d_Mo_rebase_60 : decode prog_12_method_32_code 60 = .ok (.iconst 0, 1) := by decide +kernel
theorem d_Mo_rebase_61 : decode prog_12_method_32_code 61 = .ok (.istore_n 3, 1) := by decide +kernel
theorem d_Mo_rebase_62 : decode prog_12_method_32_code 62 = .ok (.iconst 0, 1) := by decide +kernel
theorem d_Mo_rebase_63 : decode prog_12_method_32_code 63 = .ok (.istore 4, 2) := by decide +kernel
theorem d_Mo_rebase_65 : decode prog_12_method_32_code 65 = .ok (.iload 4, 2) := by decide +kernel
theorem d_Mo_rebase_67 : decode prog_12_method_32_code 67 = .ok (.aload_n 0, 1) := by decide +kernel
theorem d_Mo_rebase_68 : decode prog_12_method_32_code 68 = .ok (.getfield 175, 3) := by decide +kernel
theorem d_Mo_rebase_71 : decode prog_12_method_32_code 71 = .ok (.if_icmp .ge 79, 3) := by decide +kernel
theorem d_Mo_rebase_74 : decode prog_12_method_32_code 74 = .ok (.aload_n 0, 1) := by decide +kernel
theorem d_Mo_rebase_75 : decode prog_12_method_32_code 75 = .ok (.getfield 169, 3) := by decide +kernel
theorem d_Mo_rebase_78 : decode prog_12_method_32_code 78 = .ok (.aload_n 0, 1) := by decide +kernel
theorem d_Mo_rebase_79 : decode prog_12_method_32_code 79 = .ok (.getfield 163, 3) := by decide +kernel
theorem d_Mo_rebase_82 : decode prog_12_method_32_code 82 = .ok (.if_icmp .le 51, 3) := by decide +kernel
theorem d_Mo_rebase_85 : decode prog_12_method_32_code 85 = .ok (.aload_n 0, 1) := by decide +kernel
theorem d_Mo_rebase_86 : decode prog_12_method_32_code 86 = .ok (.aload_n 0, 1) := by decide +kernel
theorem d_Mo_rebase_87 : decode prog_12_method_32_code 87 = .ok (.getfield 57, 3) := by decide +kernel
theorem d_Mo_rebase_90 : decode prog_12_method_32_code 90 = .ok (.iload 4, 2) := by decide +kernel
theorem d_Mo_rebase_92 : decode prog_12_method_32_code 92 = .ok (.iaload, 1) := by decide +kernel
theorem d_Mo_rebase_93 : decode prog_12_method_32_code 93 = .ok (.invokevirtual 197, 3) := by decide +kernel
theorem d_Mo_rebase_96 : decode prog_12_method_32_code 96 = .ok (.aload_n 0, 1) := by decide +kernel
theorem d_Mo_rebase_97 : decode prog_12_method_32_code 97 = .ok (.getfield 163, 3) := by decide +kernel
theorem d_Mo_rebase_100 : decode prog_12_method_32_code 100 = .ok (.if_icmp .gt 14, 3) := by decide +kernel
theorem d_Mo_rebase_103 : decode prog_12_method_32_code 103 = .ok (.iload 4, 2) := by decide +kernel
theorem d_Mo_rebase_105 : decode prog_12_method_32_code 105 = .ok (.aload_n 0, 1) := by decide +kernel
theorem d_Mo_rebase_106 : decode prog_12_method_32_code 106 = .ok (.getfield 175, 3) := by decide +kernel
theorem d_Mo_rebase_109 : decode prog_12_method_32_code 109 = .ok (.iconst 1, 1) := by decide +kernel
theorem d_Mo_rebase_110 : decode prog_12_method_32_code 110 = .ok (.isub, 1) := by decide +kernel
theorem d_Mo_rebase_111 : decode prog_12_method_32_code 111 = .ok (.if_icmp .ne 22, 3) := by decide +kernel
theorem d_Mo_rebase_114 : decode prog_12_method_32_code 114 = .ok (.aload_n 0, 1) := by decide +kernel
theorem d_Mo_rebase_115 : decode prog_12_method_32_code 115 = .ok (.getfield 57, 3) := by decide +kernel
theorem d_Mo_rebase_118 : decode prog_12_method_32_code 118 = .ok (.iload_n 3, 1) := by decide +kernel
theorem d_Mo_rebase_119 : decode prog_12_method_32_code 119 = .ok (.aload_n 0, 1) := by decide +kernel
theorem d_Mo_rebase_120 : decode prog_12_method_32_code 120 = .ok (.getfield 57, 3) := by decide +kernel
theorem d_Mo_rebase_123 : decode prog_12_method_32_code 123 = .ok (.iload 4, 2) := by decide +kernel
theorem d_Mo_rebase_125 : decode prog_12_method_32_code 125 = .ok (.iaload, 1) := by decide +kernel
theorem d_Mo_rebase_126 : decode prog_12_method_32_code 126 = .ok (.iastore, 1) := by decide +kernel
theorem d_Mo_rebase_127 : decode prog_12_method_32_code 127 = .ok (.iinc 3 1, 3) := by decide +kernel
theorem d_Mo_rebase_130 : decode prog_12_method_32_code 130 = .ok (.goto 14, 3) := by decide +kernel
theorem d_Mo_rebase_133 : decode prog_12_method_32_code 133 = .ok (.aload_n 0, 1) := by decide +kernel
theorem d_Mo_rebase_134 : decode prog_12_method_32_code 134 = .ok (.aload_n 0, 1) := by decide +kernel
theorem d_Mo_rebase_135 : decode prog_12_method_32_code 135 = .ok (.getfield 57, 3) := by decide +kernel
theorem d_Mo_rebase_138 : decode prog_12_method_32_code 138 = .ok (.iload 4, 2) := by decide +kernel
theorem d_Mo_rebase_140 : decode prog_12_method_32_code 140 = .ok (.iaload, 1) := by decide +kernel
theorem d_Mo_rebase_141 : decode prog_12_method_32_code 141 = .ok (.invokevirtual 190, 3) := by decide +kernel
theorem d_Mo_rebase_144 : decode prog_12_method_32_code 144 = .ok (.iinc 4 1, 3) := by decide +kernel
theorem d_Mo_rebase_147 : decode prog_12_method_32_code 147 = .ok (.goto (-82), 3) := by decide +kernel
theorem d_Mo_rebase_150 : decode prog_12_method_32_code 150 = .ok (.aload_n 0, 1) := by decide +kernel
theorem d_Mo_rebase_151 : decode prog_12_method_32_code 151 = .ok (.iload_n 3, 1) := by decide +kernel
theorem d_Mo_rebase_152 : decode prog_12_method_32_code 152 = .ok (.putfield 175, 3) := by decide +kernel
theorem d_Mo_rebase_155 : decode prog_12_method_32_code 155 = .ok (.return_, 1) := by decide +kernel
theorem d_Mo_write_0 : decode prog_12_method_33_code 0 = .ok (.aload_n 0, 1) := by decide +kernel
theorem d_Mo_write_1 : decode prog_12_method_33_code 1 = .ok (.getfield 75, 3) := by decide +kernel
theorem d_Mo_write_4 : decode prog_12_method_33_code 4 = .ok (.iconst 2, 1) := by decide +kernel
theorem d_Mo_write_5 : decode prog_12_method_33_code 5 = .ok (.if_icmp .ne 7, 3) := by decide +kernel
theorem d_Mo_write_8 : decode prog_12_method_33_code 8 = .ok (.iconst 3, 1) := by decide +kernel
theorem d_Mo_write_9 : decode prog_12_method_33_code 9 = .ok (.goto 4, 3) := by decide +kernel
theorem d_Mo_write_12 : decode prog_12_method_33_code 12 = .ok (.iconst 2, 1) := by decide +kernel
theorem d_Mo_write_13 : decode prog_12_method_33_code 13 = .ok (.istore 5, 2) := by decide +kernel
theorem d_Mo_write_15 : decode prog_12_method_33_code 15 = .ok (.aload_n 0, 1) := by decide +kernel
theorem d_Mo_write_16 : decode prog_12_method_33_code 16 = .ok (.iload 5, 2) := by decide +kernel
theorem d_Mo_write_18 : decode prog_12_method_33_code 18 = .ok (.bipush 20, 2) := by decide +kernel
theorem d_Mo_write_20 : decode prog_12_method_33_code 20 = .ok (.iload 4, 2) := by decide +kernel
theorem d_Mo_write_22 : decode prog_12_method_33_code 22 = .ok (.iadd, 1) := by decide +kernel
theorem d_Mo_write_23 : decode prog_12_method_33_code 23 = .ok (.invokevirtual 146, 3) := by decide +kernel
theorem d_Mo_write_26 : decode prog_12_method_33_code 26 = .ok (.ifCond .ne 5, 3) := by decide +kernel
theorem d_Mo_write_29 : decode prog_12_method_33_code 29 = .ok (.iconst 0, 1) := by decide +kernel
theorem d_Mo_write_30 : decode prog_12_method_33_code 30 = .ok (.ireturn, 1) := by decide +kernel
theorem d_Mo_write_31 : decode prog_12_method_33_code 31 = .ok (.aload_n 0, 1) := by decide +kernel
theorem d_Mo_write_32 : decode prog_12_method_33_code 32 = .ok (.iload 5, 2) := by decide +kernel
theorem d_Mo_write_34 : decode prog_12_method_33_code 34 = .ok (.iconst 0, 1) := by decide +kernel
theorem d_Mo_write_35 : decode prog_12_method_33_code 35 = .ok (.invokevirtual 118, 3) := by decide +kernel
theorem d_Mo_write_38 : decode prog_12_method_33_code 38 = .ok (.aload_n 0, 1) := by decide +kernel
theorem d_Mo_write_39 : decode prog_12_method_33_code 39 = .ok (.iconst 1, 1) := by decide +kernel
theorem d_Mo_write_40 : decode prog_12_method_33_code 40 = .ok (.iload_n 1, 1) := by decide +kernel
theorem d_Mo_write_41 : decode prog_12_method_33_code 41 = .ok (.iload_n 2, 1) := by decide +kernel
theorem d_Mo_write_42 : decode prog_12_method_33_code 42 = .ok (.iload_n 3, 1) := by decide +kernel
theorem d_Mo_write_43 : decode prog_12_method_33_code 43 = .ok (.invokevirtual 153, 3) := by decide +kernel
theorem d_Mo_write_46 : decode prog_12_method_33_code 46 = .ok (.istore 6, 2) := by decide +kernel
theorem d_Mo_write_48 : decode prog_12_method_33_code 48 = .ok (.aload_n 0, 1) := by decide +kernel
theorem d_Mo_write_49 : decode prog_12_method_33_code 49 = .ok (.iload 6, 2) := by decide +kernel
theorem d_Mo_write_51 : decode prog_12_method_33_code 51 = .ok (.iload 4, 2) := by decide +kernel
theorem d_Mo_write_53 : decode prog_12_method_33_code 53 = .ok (.invokevirtual 184, 3) := by decide +kernel
theorem d_Mo_write_56 : decode prog_12_method_33_code 56 = .ok (.aload_n 0, 1) := by decide +kernel
theorem d_Mo_write_57 : decode prog_12_method_33_code 57 = .ok (.iload 5, 2) := by decide +kernel
theorem d_Mo_write_59 : decode prog_12_method_33_code 59 = .ok (.iload 6, 2) := by decide +kernel
theorem d_Mo_write_61 : decode prog_12_method_33_code 61 = .ok (.invokevirtual 157, 3) := by decide +kernel
theorem d_Mo_write_64 : decode prog_12_method_33_code 64 = .ok (.aload_n 0, 1) := by decide +kernel
theorem d_Mo_write_65 : decode prog_12_method_33_code 65 = .ok (.iload 5, 2) := by decide +kernel
theorem d_Mo_write_67 : decode prog_12_method_33_code 67 = .ok (.invokevirtual 200, 3) := by decide +kernel
theorem d_Mo_write_70 : decode prog_12_method_33_code 70 = .ok (.aload_n 0, 1) := by decide +kernel
theorem d_Mo_write_71 : decode prog_12_method_33_code 71 = .ok (.iload 5, 2) := by decide +kernel
theorem d_Mo_write_73 : decode prog_12_method_33_code 73 = .ok (.putfield 75, 3) := by decide +kernel
theorem d_Mo_write_76 : decode prog_12_method_33_code 76 = .ok (.aload_n 0, 1) := by decide +kernel
theorem d_Mo_write_77 : decode prog_12_method_33_code 77 = .ok (.iload_n 2, 1) := by decide +kernel
theorem d_Mo_write_78 : decode prog_12_method_33_code 78 = .ok (.putfield 166, 3) := by decide +kernel
theorem d_Mo_write_81 : decode prog_12_method_33_code 81 = .ok (.aload_n 0, 1) := by decide +kernel
theorem d_Mo_write_82 : decode prog_12_method_33_code 82 = .ok (.iload_n 3, 1) := by decide +kernel
theorem d_Mo_write_83 : decode prog_12_method_33_code 83 = .ok (.putfield 72, 3) := by decide +kernel
theorem d_Mo_write_86 : decode prog_12_method_33_code 86 = .ok (.aload_n 0, 1) := by decide +kernel
theorem d_Mo_write_87 : decode prog_12_method_33_code 87 = .ok (.iconst 1, 1) := by decide +kernel
theorem d_Mo_write_88 : decode prog_12_method_33_code 88 = .ok (.putfield 160, 3) := by decide +kernel
theorem d_Mo_write_91 : decode prog_12_method_33_code 91 = .ok (.iconst 1, 1) := by decide +kernel
theorem d_Mo_write_92 : decode prog_12_method_33_code 92 = .ok (.ireturn, 1) := by decide +kernel
theorem d_Mo_compact_0 : decode prog_12_method_34_code 0 = .ok (.aload_n 0, 1) := by decide +kernel
theorem d_Mo_compact_1 : decode prog_12_method_34_code 1 = .ok (.iconst 0, 1) := by decide +kernel
theorem d_Mo_compact_2 : decode prog_12_method_34_code 2 = .ok (.putfield 78, 3) := by decide +kernel
theorem d_Mo_compact_5 : decode prog_12_method_34_code 5 = .ok (.aload_n 0, 1) := by decide +kernel
theorem d_Mo_compact_6 : decode prog_12_method_34_code 6 = .ok (.getfield 132, 3) := by decide +kernel
theorem d_Mo_compact_9 : decode prog_12_method_34_code 9 = .ok (.istore_n 3, 1) := by decide +kernel
theorem d_Mo_compact_10 : decode prog_12_method_34_code 10 = .ok (.aload_n 0, 1) := by decide +kernel
theorem d_Mo_compact_11 : decode prog_12_method_34_code 11 = .ok (.iconst 0, 1) := by decide +kernel
theorem d_Mo_compact_12 : decode prog_12_method_34_code 12 = .ok (.putfield 132, 3) := by decide +kernel
theorem d_Mo_compact_15 : decode prog_12_method_34_code 15 = .ok (.iload_n 1, 1) := by decide +kernel
theorem d_Mo_compact_16 : decode prog_12_method_34_code 16 = .ok (.aload_n 0, 1) := by decide +kernel
theorem d_Mo_compact_17 : decode prog_12_method_34_code 17 = .ok (.getfield 163, 3) := by decide +kernel
theorem d_Mo_compact_20 : decode prog_12_method_34_code 20 = .ok (.iconst 1, 1) := by decide +kernel
theorem d_Mo_compact_21 : decode prog_12_method_34_code 21 = .ok (.iadd, 1) := by decide +kernel
theorem d_Mo_compact_22 : decode prog_12_method_34_code 22 = .ok (.aload_n 0, 1) := by decide +kernel
theorem d_Mo_compact_23 : decode prog_12_method_34_code 23 = .ok (.getfield 169, 3) := by decide +kernel
theorem d_Mo_compact_26 : decode prog_12_method_34_code 26 = .ok (.invokestatic 125, 3) := by decide +kernel
theorem d_Mo_compact_29 : decode prog_12_method_34_code 29 = .ok (.ifCond .ne 9, 3) := by decide +kernel
theorem d_Mo_compact_32 : decode prog_12_method_34_code 32 = .ok (.aload_n 0, 1) := by decide +kernel
theorem d_Mo_compact_33 : decode prog_12_method_34_code 33 = .ok (.iconst 1, 1) := by decide +kernel
theorem d_Mo_compact_34 : decode prog_12_method_34_code 34 = .ok (.invokevirtual 129, 3) := by decide +kernel
theorem d_Mo_compact_37 : decode prog_12_method_34_code 37 = .ok (.ireturn, 1) := by decide +kernel
theorem d_Mo_compact_38 : decode prog_12_method_34_code 38 = .ok (.aload_n 0, 1) := by decide +kernel
theorem d_Mo_compact_39 : decode prog_12_method_34_code 39 = .ok (.iload_n 1, 1) := by decide +kernel
theorem d_Mo_compact_40 : decode prog_12_method_34_code 40 = .ok (.invokevirtual 172, 3) := by decide +kernel
theorem d_Mo_compact_43 : decode prog_12_method_34_code 43 = .ok (.istore 4, 2) := by decide +kernel
theorem d_Mo_compact_45 : decode prog_12_method_34_code 45 = .ok (.aload_n 0, 1) := by decide +kernel
theorem d_Mo_compact_46 : decode prog_12_method_34_code 46 = .ok (.iload_n 1, 1) := by decide +kernel
theorem d_Mo_compact_47 : decode prog_12_method_34_code 47 = .ok (.iload 4, 2) := by decide +kernel
theorem d_Mo_compact_49 : decode prog_12_method_34_code 49 = .ok (.iload_n 2, 1) := by decide +kernel
theorem d_Mo_compact_50 : decode prog_12_method_34_code 50 = .ok (.iload_n 3, 1) := by decide +kernel
theorem d_Mo_compact_51 : decode prog_12_method_34_code 51 = .ok (.invokevirtual 203, 3) := by decide +kernel
theorem d_Mo_compact_54 : decode prog_12_method_34_code 54 = .ok (.ifCond .ne 9, 3) := by decide +kernel
theorem d_Mo_compact_57 : decode prog_12_method_34_code 57 = .ok (.aload_n 0, 1) := by decide +kernel
theorem d_Mo_compact_58 : decode prog_12_method_34_code 58 = .ok (.iconst 2, 1) := by decide +kernel
theorem d_Mo_compact_59 : decode prog_12_method_34_code 59 = .ok (.invokevirtual 129, 3) := by decide +kernel
theorem d_Mo_compact_62 : decode prog_12_method_34_code 62 = .ok (.ireturn, 1) := by decide +kernel
theorem d_Mo_compact_63 : decode prog_12_method_34_code 63 = .ok (.iload_n 1, 1) := by decide +kernel
theorem d_Mo_compact_64 : decode prog_12_method_34_code 64 = .ok (.aload_n 0, 1) := by decide +kernel
theorem d_Mo_compact_65 : decode prog_12_method_34_code 65 = .ok (.getfield 163, 3) := by decide +kernel
theorem d_Mo_compact_68 : decode prog_12_method_34_code 68 = .ok (.isub, 1) := by decide +kernel
theorem d_Mo_compact_69 : decode prog_12_method_34_code 69 = .ok (.istore 5, 2) := by decide +kernel
theorem d_Mo_compact_71 : decode prog_12_method_34_code 71 = .ok (.aload_n 0, 1) := by decide +kernel
theorem d_Mo_compact_72 : decode prog_12_method_34_code 72 = .ok (.iload_n 1, 1) := by decide +kernel
theorem d_Mo_compact_73 : decode prog_12_method_34_code 73 = .ok (.iload 5, 2) := by decide +kernel
theorem d_Mo_compact_75 : decode prog_12_method_34_code 75 = .ok (.invokevirtual 207, 3) := by decide +kernel
theorem d_Mo_compact_78 : decode prog_12_method_34_code 78 = .ok (.iload 5, 2) := by decide +kernel
theorem d_Mo_compact_80 : decode prog_12_method_34_code 80 = .ok (.ireturn, 1) := by decide +kernel
theorem d_Mo_take_0 : decode prog_12_method_35_code 0 = .ok (.aload_n 0, 1) := by decide +kernel
theorem d_Mo_take_1 : decode prog_12_method_35_code 1 = .ok (.iconst 0, 1) := by decide +kernel
theorem d_Mo_take_2 : decode prog_12_method_35_code 2 = .ok (.putfield 78, 3) := by decide +kernel
theorem d_Mo_take_5 : decode prog_12_method_35_code 5 = .ok (.aload_n 0, 1) := by decide +kernel
theorem d_Mo_take_6 : decode prog_12_method_35_code 6 = .ok (.getfield 132, 3) := by decide +kernel
theorem d_Mo_take_9 : decode prog_12_method_35_code 9 = .ok (.istore 4, 2) := by decide +kernel
theorem d_Mo_take_11 : decode prog_12_method_35_code 11 = .ok (.aload_n 0, 1) := by decide +kernel
theorem d_Mo_take_12 : decode prog_12_method_35_code 12 = .ok (.iconst 0, 1) := by decide +kernel
theorem d_Mo_take_13 : decode prog_12_method_35_code 13 = .ok (.putfield 132, 3) := by decide +kernel
theorem d_Mo_take_16 : decode prog_12_method_35_code 16 = .ok (.iload_n 1, 1) := by decide +kernel
theorem d_Mo_take_17 : decode prog_12_method_35_code 17 = .ok (.aload_n 0, 1) := by decide +kernel
theorem d_Mo_take_18 : decode prog_12_method_35_code 18 = .ok (.getfield 163, 3) := by decide +kernel
theorem d_Mo_take_21 : decode prog_12_method_35_code 21 = .ok (.iconst 1, 1) := by decide +kernel
theorem d_Mo_take_22 : decode prog_12_method_35_code 22 = .ok (.iadd, 1) := by decide +kernel
theorem d_Mo_take_23 : decode prog_12_method_35_code 23 = .ok (.ldc 138, 2) := by decide +kernel
theorem d_Mo_take_25 : decode prog_12_method_35_code 25 = .ok (.invokestatic 125, 3) := by decide +kernel
theorem d_Mo_take_28 : decode prog_12_method_35_code 28 = .ok (.ifCond .eq 13, 3) := by decide +kernel
theorem d_Mo_take_31 : decode prog_12_method_35_code 31 = .ok (.iload_n 2, 1) := by decide +kernel
theorem d_Mo_take_32 : decode prog_12_method_35_code 32 = .ok (.iconst 0, 1) := by decide +kernel
theorem d_Mo_take_33 : decode prog_12_method_35_code 33 = .ok (.ldc 138, 2) := by decide +kernel
theorem d_Mo_take_35 : decode prog_12_method_35_code 35 = .ok (.invokestatic 125, 3) := by decide +kernel
theorem d_Mo_take_38 : decode prog_12_method_35_code 38 = .ok (.ifCond .ne 9, 3) := by decide +kernel
theorem d_Mo_take_41 : decode prog_12_method_35_code 41 = .ok (.aload_n 0, 1) := by decide +kernel
theorem d_Mo_take_42 : decode prog_12_method_35_code 42 = .ok (.iconst 1, 1) := by decide +kernel
theorem d_Mo_take_43 : decode prog_12_method_35_code 43 = .ok (.invokevirtual 129, 3) := by decide +kernel
theorem d_Mo_take_46 : decode prog_12_method_35_code 46 = .ok (.ireturn, 1) := by decide +kernel
theorem d_Mo_take_47 : decode prog_12_method_35_code 47 = .ok (.iload_n 1, 1) := by decide +kernel
theorem d_Mo_take_48 : decode prog_12_method_35_code 48 = .ok (.aload_n 0, 1) := by decide +kernel
theorem d_Mo_take_49 : decode prog_12_method_35_code 49 = .ok (.getfield 169, 3) := by decide +kernel
theorem d_Mo_take_52 : decode prog_12_method_35_code 52 = .ok (.if_icmp .gt 16, 3) := by decide +kernel
theorem d_Mo_take_55 : decode prog_12_method_35_code 55 = .ok (.aload_n 0, 1) := by decide +kernel
theorem d_Mo_take_56 : decode prog_12_method_35_code 56 = .ok (.iload_n 1, 1) := by decide +kernel
theorem d_Mo_take_57 : decode prog_12_method_35_code 57 = .ok (.invokevirtual 172, 3) := by decide +kernel
theorem d_Mo_take_60 : decode prog_12_method_35_code 60 = .ok (.iload_n 2, 1) := by decide +kernel
theorem d_Mo_take_61 : decode prog_12_method_35_code 61 = .ok (.if_icmp .ne 7, 3) := by decide +kernel
theorem d_Mo_take_64 : decode prog_12_method_35_code 64 = .ok (.iconst 1, 1) := by decide +kernel
theorem d_Mo_take_65 : decode prog_12_method_35_code 65 = .ok (.goto 4, 3) := by decide +kernel
theorem d_Mo_take_68 : decode prog_12_method_35_code 68 = .ok (.iconst 0, 1) := by decide +kernel
theorem d_Mo_take_69 : decode prog_12_method_35_code 69 = .ok (.istore 5, 2) := by decide +kernel
theorem d_Mo_take_71 : decode prog_12_method_35_code 71 = .ok (.aload_n 0, 1) := by decide +kernel
theorem d_Mo_take_72 : decode prog_12_method_35_code 72 = .ok (.iload_n 1, 1) := by decide +kernel
theorem d_Mo_take_73 : decode prog_12_method_35_code 73 = .ok (.iload_n 2, 1) := by decide +kernel
theorem d_Mo_take_74 : decode prog_12_method_35_code 74 = .ok (.iload_n 3, 1) := by decide +kernel
theorem d_Mo_take_75 : decode prog_12_method_35_code 75 = .ok (.iload 4, 2) := by decide +kernel
theorem d_Mo_take_77 : decode prog_12_method_35_code 77 = .ok (.invokevirtual 203, 3) := by decide +kernel
theorem d_Mo_take_80 : decode prog_12_method_35_code 80 = .ok (.ifCond .ne 9, 3) := by decide +kernel
theorem d_Mo_take_83 : decode prog_12_method_35_code 83 = .ok (.aload_n 0, 1) := by decide +kernel
theorem d_Mo_take_84 : decode prog_12_method_35_code 84 = .ok (.iconst 2, 1) := by decide +kernel
theorem d_Mo_take_85 : decode prog_12_method_35_code 85 = .ok (.invokevirtual 129, 3) := by decide +kernel
theorem d_Mo_take_88 : decode prog_12_method_35_code 88 = .ok (.ireturn, 1) := by decide +kernel
theorem d_Mo_take_89 : decode prog_12_method_35_code 89 = .ok (.iload 5, 2) := by decide +kernel
theorem d_Mo_take_91 : decode prog_12_method_35_code 91 = .ok (.ifCond .ne 23, 3) := by decide +kernel
theorem d_Mo_take_94 : decode prog_12_method_35_code 94 = .ok (.aload_n 0, 1) := by decide +kernel
theorem d_Mo_take_95 : decode prog_12_method_35_code 95 = .ok (.iload_n 1, 1) := by decide +kernel
theorem d_Mo_take_96 : decode prog_12_method_35_code 96 = .ok (.aload_n 0, 1) := by decide +kernel
theorem d_Mo_take_97 : decode prog_12_method_35_code 97 = .ok (.getfield 169, 3) := by decide +kernel
theorem d_Mo_take_100 : decode prog_12_method_35_code 100 = .ok (.if_icmp .le 10, 3) := by decide +kernel
theorem d_Mo_take_103 : decode prog_12_method_35_code 103 = .ok (.aload_n 0, 1) := by decide +kernel
theorem d_Mo_take_104 : decode prog_12_method_35_code 104 = .ok (.getfield 169, 3) := by decide +kernel
theorem d_Mo_take_107 : decode prog_12_method_35_code 107 = .ok (.goto 4, 3) := by decide +kernel
theorem d_Mo_take_110 : decode prog_12_method_35_code 110 = .ok (.iload_n 1, 1) := by decide +kernel
theorem d_Mo_take_111 : decode prog_12_method_35_code 111 = .ok (.putfield 169, 3) := by decide +kernel
theorem d_Mo_take_114 : decode prog_12_method_35_code 114 = .ok (.aload_n 0, 1) := by decide +kernel
theorem d_Mo_take_115 : decode prog_12_method_35_code 115 = .ok (.iload_n 1, 1) := by decide +kernel
theorem d_Mo_take_116 : decode prog_12_method_35_code 116 = .ok (.iload 5, 2) := by decide +kernel
theorem d_Mo_take_118 : decode prog_12_method_35_code 118 = .ok (.ifCond .eq 12, 3) := by decide +kernel
theorem d_Mo_take_121 : decode prog_12_method_35_code 121 = .ok (.iload_n 1, 1) := by decide +kernel
theorem d_Mo_take_122 : decode prog_12_method_35_code 122 = .ok (.aload_n 0, 1) := by decide +kernel
theorem d_Mo_take_123 : decode prog_12_method_35_code 123 = .ok (.getfield 163, 3) := by decide +kernel
theorem d_Mo_take_126 : decode prog_12_method_35_code 126 = .ok (.isub, 1) := by decide +kernel
theorem d_Mo_take_127 : decode prog_12_method_35_code 127 = .ok (.goto 12, 3) := by decide +kernel
theorem d_Mo_take_130 : decode prog_12_method_35_code 130 = .ok (.aload_n 0, 1) := by decide +kernel
theorem d_Mo_take_131 : decode prog_12_method_35_code 131 = .ok (.getfield 169, 3) := by decide +kernel
theorem d_Mo_take_134 : decode prog_12_method_35_code 134 = .ok (.aload_n 0, 1) := by decide +kernel
theorem d_Mo_take_135 : decode prog_12_method_35_code 135 = .ok (.getfield 163, 3) := by decide +kernel
theorem d_Mo_take_138 : decode prog_12_method_35_code 138 = .ok (.isub, 1) := by decide +kernel
theorem d_Mo_take_139 : decode prog_12_method_35_code 139 = .ok (.invokevirtual 207, 3) := by decide +kernel
theorem d_Mo_take_142 : decode prog_12_method_35_code 142 = .ok (.aload_n 0, 1) := by decide +kernel
theorem d_Mo_take_143 : decode prog_12_method_35_code 143 = .ok (.getfield 169, 3) := by decide +kernel
theorem d_Mo_take_146 : decode prog_12_method_35_code 146 = .ok (.ireturn, 1) := by decide +kernel
theorem d_Mo_sync_0 : decode prog_12_method_36_code 0 = .ok (.aload_n 0, 1) := by decide +kernel
theorem d_Mo_sync_1 : decode prog_12_method_36_code 1 = .ok (.iconst 0, 1) := by decide +kernel
theorem d_Mo_sync_2 : decode prog_12_method_36_code 2 = .ok (.putfield 78, 3) := by decide +kernel
theorem d_Mo_sync_5 : decode prog_12_method_36_code 5 = .ok (.aload_n 0, 1) := by decide +kernel
theorem d_Mo_sync_6 : decode prog_12_method_36_code 6 = .ok (.getfield 160, 3) := by decide +kernel
theorem d_Mo_sync_9 : decode prog_12_method_36_code 9 = .ok (.istore_n 1, 1) := by decide +kernel
theorem d_Mo_sync_10 : decode prog_12_method_36_code 10 = .ok (.iconst 0, 1) := by decide +kernel
theorem d_Mo_sync_11 : decode prog_12_method_36_code 11 = .ok (.istore_n 2, 1) := by decide +kernel
theorem d_Mo_sync_12 : decode prog_12_method_36_code 12 = .ok (.iload_n 2, 1) := by decide +kernel
theorem d_Mo_sync_13 : decode prog_12_method_36_code 13 = .ok (.bipush 16, 2) := by decide +kernel
theorem d_Mo_sync_15 : decode prog_12_method_36_code 15 = .ok (.if_icmp .ge 14, 3) := by decide +kernel
theorem d_Mo_sync_18 : decode prog_12_method_36_code 18 = .ok (.aload_n 0, 1) := by decide +kernel
theorem d_Mo_sync_19 : decode prog_12_method_36_code 19 = .ok (.iload_n 2, 1) := by decide +kernel
theorem d_Mo_sync_20 : decode prog_12_method_36_code 20 = .ok (.invokevirtual 200, 3) := by decide +kernel
theorem d_Mo_sync_23 : decode prog_12_method_36_code 23 = .ok (.iinc 2 1, 3) := by decide +kernel
theorem d_Mo_sync_26 : decode prog_12_method_36_code 26 = .ok (.goto (-14), 3) := by decide +kernel
theorem d_Mo_sync_29 : decode prog_12_method_36_code 29 = .ok (.aload_n 0, 1) := by decide +kernel
theorem d_Mo_sync_30 : decode prog_12_method_36_code 30 = .ok (.iconst 0, 1) := by decide +kernel
theorem d_Mo_sync_31 : decode prog_12_method_36_code 31 = .ok (.putfield 160, 3) := by decide +kernel
theorem d_Mo_sync_34 : decode prog_12_method_36_code 34 = .ok (.aload_n 0, 1) := by decide +kernel
theorem d_Mo_sync_35 : decode prog_12_method_36_code 35 = .ok (.iconst 0, 1) := by decide +kernel
theorem d_Mo_sync_36 : decode prog_12_method_36_code 36 = .ok (.putfield 139, 3) := by decide +kernel
theorem d_Mo_sync_39 : decode prog_12_method_36_code 39 = .ok (.iload_n 1, 1) := by decide +kernel
theorem d_Mo_sync_40 : decode prog_12_method_36_code 40 = .ok (.ireturn, 1) := by decide +kernel
theorem d_Mo_keep_0 : decode prog_12_method_37_code 0 = .ok (.aload_n 0, 1) := by decide +kernel
theorem d_Mo_keep_1 : decode prog_12_method_37_code 1 = .ok (.iconst 0, 1) := by decide +kernel
theorem d_Mo_keep_2 : decode prog_12_method_37_code 2 = .ok (.putfield 78, 3) := by decide +kernel
theorem d_Mo_keep_5 : decode prog_12_method_37_code 5 = .ok (.iload_n 1, 1) := by decide +kernel
theorem d_Mo_keep_6 : decode prog_12_method_37_code 6 = .ok (.iconst 0, 1) := by decide +kernel
theorem d_Mo_keep_7 : decode prog_12_method_37_code 7 = .ok (.bipush 15, 2) := by decide +kernel
theorem d_Mo_keep_9 : decode prog_12_method_37_code 9 = .ok (.invokestatic 125, 3) := by decide +kernel
theorem d_Mo_keep_12 : decode prog_12_method_37_code 12 = .ok (.ifCond .ne 11, 3) := by decide +kernel
theorem d_Mo_keep_15 : decode prog_12_method_37_code 15 = .ok (.aload_n 0, 1) := by decide +kernel
theorem d_Mo_keep_16 : decode prog_12_method_37_code 16 = .ok (.iconst 1, 1) := by decide +kernel
theorem d_Mo_keep_17 : decode prog_12_method_37_code 17 = .ok (.putfield 78, 3) := by decide +kernel
theorem d_Mo_keep_20 : decode prog_12_method_37_code 20 = .ok (.goto 22, 3) := by decide +kernel
theorem d_Mo_keep_23 : decode prog_12_method_37_code 23 = .ok (.iload_n 2, 1) := by decide +kernel
theorem d_Mo_keep_24 : decode prog_12_method_37_code 24 = .ok (.ifCond .ge 11, 3) := by decide +kernel
theorem d_Mo_keep_27 : decode prog_12_method_37_code 27 = .ok (.aload_n 0, 1) := by decide +kernel
theorem d_Mo_keep_28 : decode prog_12_method_37_code 28 = .ok (.iconst 2, 1) := by decide +kernel
theorem d_Mo_keep_29 : decode prog_12_method_37_code 29 = .ok (.putfield 78, 3) := by decide +kernel
theorem d_Mo_keep_32 : decode prog_12_method_37_code 32 = .ok (.goto 10, 3) := by decide +kernel
theorem d_Mo_keep_35 : decode prog_12_method_37_code 35 = .ok (.aload_n 0, 1) := by decide +kernel
theorem d_Mo_keep_36 : decode prog_12_method_37_code 36 = .ok (.getfield 50, 3) := by decide +kernel
theorem d_Mo_keep_39 : decode prog_12_method_37_code 39 = .ok (.iload_n 1, 1) := by decide +kernel
theorem d_Mo_keep_40 : decode prog_12_method_37_code 40 = .ok (.iload_n 2, 1) := by decide +kernel
theorem d_Mo_keep_41 : decode prog_12_method_37_code 41 = .ok (.iastore, 1) := by decide +kernel
theorem d_Mo_keep_42 : decode prog_12_method_37_code 42 = .ok (.return_, 1) := by decide +kernel
theorem d_Mo_crashFile_0 : decode prog_12_method_38_code 0 = .ok (.iload_n 2, 1) := by decide +kernel
theorem d_Mo_crashFile_1 : decode prog_12_method_38_code 1 = .ok (.ifCond .ne 15, 3) := by decide +kernel
theorem d_Mo_crashFile_4 : decode prog_12_method_38_code 4 = .ok (.aload_n 0, 1) := by decide +kernel
theorem d_Mo_crashFile_5 : decode prog_12_method_38_code 5 = .ok (.bipush 16, 2) := by decide +kernel
theorem d_Mo_crashFile_7 : decode prog_12_method_38_code 7 = .ok (.iload_n 1, 1) := by decide +kernel
theorem d_Mo_crashFile_8 : decode prog_12_method_38_code 8 = .ok (.iadd, 1) := by decide +kernel
theorem d_Mo_crashFile_9 : decode prog_12_method_38_code 9 = .ok (.iload_n 1, 1) := by decide +kernel
theorem d_Mo_crashFile_10 : decode prog_12_method_38_code 10 = .ok (.invokevirtual 122, 3) := by decide +kernel
theorem d_Mo_crashFile_13 : decode prog_12_method_38_code 13 = .ok (.goto 37, 3) := by decide +kernel
theorem d_Mo_crashFile_16 : decode prog_12_method_38_code 16 = .ok (.aload_n 0, 1) := by decide +kernel
theorem d_Mo_crashFile_17 : decode prog_12_method_38_code 17 = .ok (.getfield 37, 3) := by decide +kernel
theorem d_Mo_crashFile_20 : decode prog_12_method_38_code 20 = .ok (.iload_n 1, 1) := by decide +kernel
theorem d_Mo_crashFile_21 : decode prog_12_method_38_code 21 = .ok (.iaload, 1) := by decide +kernel
theorem d_Mo_crashFile_22 : decode prog_12_method_38_code 22 = .ok (.aload_n 0, 1) := by decide +kernel
theorem d_Mo_crashFile_23 : decode prog_12_method_38_code 23 = .ok (.getfield 44, 3) := by decide +kernel
theorem d_Mo_crashFile_26 : decode prog_12_method_38_code 26 = .ok (.iload_n 1, 1) := by decide +kernel
theorem d_Mo_crashFile_27 : decode prog_12_method_38_code 27 = .ok (.iaload, 1) := by decide +kernel
theorem d_Mo_crashFile_28 : decode prog_12_method_38_code 28 = .ok (.isub, 1) := by decide +kernel
theorem d_Mo_crashFile_29 : decode prog_12_method_38_code 29 = .ok (.iload_n 2, 1) := by decide +kernel
theorem d_Mo_crashFile_30 : decode prog_12_method_38_code 30 = .ok (.iconst 1, 1) := by decide +kernel
theorem d_Mo_crashFile_31 : decode prog_12_method_38_code 31 = .ok (.isub, 1) := by decide +kernel
theorem d_Mo_crashFile_32 : decode prog_12_method_38_code 32 = .ok (.if_icmp .le 18, 3) := by decide +kernel
theorem d_Mo_crashFile_35 : decode prog_12_method_38_code 35 = .ok (.aload_n 0, 1) := by decide +kernel
theorem d_Mo_crashFile_36 : decode prog_12_method_38_code 36 = .ok (.iload_n 1, 1) := by decide +kernel
theorem d_Mo_crashFile_37 : decode prog_12_method_38_code 37 = .ok (.aload_n 0, 1) := by decide +kernel
theorem d_Mo_crashFile_38 : decode prog_12_method_38_code 38 = .ok (.getfield 44, 3) := by decide +kernel
theorem d_Mo_crashFile_41 : decode prog_12_method_38_code 41 = .ok (.iload_n 1, 1) := by decide +kernel
theorem d_Mo_crashFile_42 : decode prog_12_method_38_code 42 = .ok (.iaload, 1) := by decide +kernel
theorem d_Mo_crashFile_43 : decode prog_12_method_38_code 43 = .ok (.iload_n 2, 1) := by decide +kernel
theorem d_Mo_crashFile_44 : decode prog_12_method_38_code 44 = .ok (.iadd, 1) := by decide +kernel
theorem d_Mo_crashFile_45 : decode prog_12_method_38_code 45 = .ok (.iconst 1, 1) := by decide +kernel
theorem d_Mo_crashFile_46 : decode prog_12_method_38_code 46 = .ok (.isub, 1) := by decide +kernel
theorem d_Mo_crashFile_47 : decode prog_12_method_38_code 47 = .ok (.invokevirtual 118, 3) := by decide +kernel
theorem d_Mo_crashFile_50 : decode prog_12_method_38_code 50 = .ok (.aload_n 0, 1) := by decide +kernel
theorem d_Mo_crashFile_51 : decode prog_12_method_38_code 51 = .ok (.iload_n 1, 1) := by decide +kernel
theorem d_Mo_crashFile_52 : decode prog_12_method_38_code 52 = .ok (.invokevirtual 200, 3) := by decide +kernel
theorem d_Mo_crashFile_55 : decode prog_12_method_38_code 55 = .ok (.return_, 1) := by decide +kernel
theorem d_Mo_whole_0 : decode prog_12_method_39_code 0 = .ok (.iconst 0, 1) := by decide +kernel
theorem d_Mo_whole_1 : decode prog_12_method_39_code 1 = .ok (.istore_n 2, 1) := by decide +kernel
theorem d_Mo_whole_2 : decode prog_12_method_39_code 2 = .ok (.iconst 0, 1) := by decide +kernel
theorem d_Mo_whole_3 : decode prog_12_method_39_code 3 = .ok (.istore_n 3, 1) := by decide +kernel
theorem d_Mo_whole_4 : decode prog_12_method_39_code 4 = .ok (.iconst 0, 1) := by decide +kernel
theorem d_Mo_whole_5 : decode prog_12_method_39_code 5 = .ok (.istore 4, 2) := by decide +kernel
theorem d_Mo_whole_7 : decode prog_12_method_39_code 7 = .ok (.iload 4, 2) := by decide +kernel
theorem d_Mo_whole_9 : decode prog_12_method_39_code 9 = .ok (.aload_n 0, 1) := by decide +kernel
theorem d_Mo_whole_10 : decode prog_12_method_39_code 10 = .ok (.getfield 34, 3) := by decide +kernel
theorem d_Mo_whole_13 : decode prog_12_method_39_code 13 = .ok (.iload_n 1, 1) := by decide +kernel
theorem d_Mo_whole_14 : decode prog_12_method_39_code 14 = .ok (.iaload, 1) := by decide +kernel
theorem d_Mo_whole_15 : decode prog_12_method_39_code 15 = .ok (.if_icmp .ge 47, 3) := by decide +kernel
theorem d_Mo_whole_18 : decode prog_12_method_39_code 18 = .ok (.iload_n 2, 1) := by decide +kernel
theorem d_Mo_whole_19 : decode prog_12_method_39_code 19 = .ok (.aload_n 0, 1) := by decide +kernel
theorem d_Mo_whole_20 : decode prog_12_method_39_code 20 = .ok (.aload_n 0, 1) := by decide +kernel
theorem d_Mo_whole_21 : decode prog_12_method_39_code 21 = .ok (.getfield 31, 3) := by decide +kernel
theorem d_Mo_whole_24 : decode prog_12_method_39_code 24 = .ok (.sipush 330, 3) := by decide +kernel
theorem d_Mo_whole_27 : decode prog_12_method_39_code 27 = .ok (.iload_n 1, 1) := by decide +kernel
theorem d_Mo_whole_28 : decode prog_12_method_39_code 28 = .ok (.imul, 1) := by decide +kernel
theorem d_Mo_whole_29 : decode prog_12_method_39_code 29 = .ok (.iload 4, 2) := by decide +kernel
theorem d_Mo_whole_31 : decode prog_12_method_39_code 31 = .ok (.iadd, 1) := by decide +kernel
theorem d_Mo_whole_32 : decode prog_12_method_39_code 32 = .ok (.iaload, 1) := by decide +kernel
theorem d_Mo_whole_33 : decode prog_12_method_39_code 33 = .ok (.invokevirtual 115, 3) := by decide +kernel
theorem d_Mo_whole_36 : decode prog_12_method_39_code 36 = .ok (.iadd, 1) := by decide +kernel
theorem d_Mo_whole_37 : decode prog_12_method_39_code 37 = .ok (.istore_n 2, 1) := by decide +kernel
theorem d_Mo_whole_38 : decode prog_12_method_39_code 38 = .ok (.iload_n 2, 1) := by decide +kernel
theorem d_Mo_whole_39 : decode prog_12_method_39_code 39 = .ok (.aload_n 0, 1) := by decide +kernel
theorem d_Mo_whole_40 : decode prog_12_method_39_code 40 = .ok (.getfield 37, 3) := by decide +kernel
theorem d_Mo_whole_43 : decode prog_12_method_39_code 43 = .ok (.iload_n 1, 1) := by decide +kernel
theorem d_Mo_whole_44 : decode prog_12_method_39_code 44 = .ok (.iaload, 1) := by decide +kernel
theorem d_Mo_whole_45 : decode prog_12_method_39_code 45 = .ok (.if_icmp .gt 9, 3) := by decide +kernel
theorem d_Mo_whole_48 : decode prog_12_method_39_code 48 = .ok (.iload_n 3, 1) := by decide +kernel
theorem d_Mo_whole_49 : decode prog_12_method_39_code 49 = .ok (.iconst 1, 1) := by decide +kernel
theorem d_Mo_whole_50 : decode prog_12_method_39_code 50 = .ok (.iadd, 1) := by decide +kernel
theorem d_Mo_whole_51 : decode prog_12_method_39_code 51 = .ok (.goto 4, 3) := by decide +kernel
theorem d_Mo_whole_54 : decode prog_12_method_39_code 54 = .ok (.iload_n 3, 1) := by decide +kernel
theorem d_Mo_whole_55 : decode prog_12_method_39_code 55 = .ok (.istore_n 3, 1) := by decide +kernel
theorem d_Mo_whole_56 : decode prog_12_method_39_code 56 = .ok (.iinc 4 1, 3) := by decide +kernel
theorem d_Mo_whole_59 : decode prog_12_method_39_code 59 = .ok (.goto (-52), 3) := by decide +kernel
theorem d_Mo_whole_62 : decode prog_12_method_39_code 62 = .ok (.iload_n 3, 1) := by decide +kernel
theorem d_Mo_whole_63 : decode prog_12_method_39_code 63 = .ok (.ireturn, 1) := by decide +kernel
theorem d_Mo_findSlots_0 : decode prog_12_method_40_code 0 = .ok (.aload_n 0, 1) := by decide +kernel
theorem d_Mo_findSlots_1 : decode prog_12_method_40_code 1 = .ok (.iconst 0, 1) := by decide +kernel
theorem d_Mo_findSlots_2 : decode prog_12_method_40_code 2 = .ok (.putfield 135, 3) := by decide +kernel
theorem d_Mo_findSlots_5 : decode prog_12_method_40_code 5 = .ok (.aload_n 0, 1) := by decide +kernel
theorem d_Mo_findSlots_6 : decode prog_12_method_40_code 6 = .ok (.iconst (-1), 1) := by decide +kernel
theorem d_Mo_findSlots_7 : decode prog_12_method_40_code 7 = .ok (.putfield 53, 3) := by decide +kernel
theorem d_Mo_findSlots_10 : decode prog_12_method_40_code 10 = .ok (.aload_n 0, 1) := by decide +kernel
theorem d_Mo_findSlots_11 : decode prog_12_method_40_code 11 = .ok (.iconst 0, 1) := by decide +kernel
theorem d_Mo_findSlots_12 : decode prog_12_method_40_code 12 = .ok (.putfield 150, 3) := by decide +kernel
theorem d_Mo_findSlots_15 : decode prog_12_method_40_code 15 = .ok (.aload_n 0, 1) := by decide +kernel
theorem d_Mo_findSlots_16 : decode prog_12_method_40_code 16 = .ok (.iconst 0, 1) := by decide +kernel
theorem d_Mo_findSlots_17 : decode prog_12_method_40_code 17 = .ok (.putfield 143, 3) := by decide +kernel
theorem d_Mo_findSlots_20 : decode prog_12_method_40_code 20 = .ok (.iconst 0, 1) := by decide +kernel
theorem d_Mo_findSlots_21 : decode prog_12_method_40_code 21 = .ok (.istore_n 1, 1) := by decide +kernel
theorem d_Mo_findSlots_22 : decode prog_12_method_40_code 22 = .ok (.iload_n 1, 1) := by decide +kernel
theorem d_Mo_findSlots_23 : decode prog_12_method_40_code 23 = .ok (.iconst 2, 1) := by decide +kernel
theorem d_Mo_findSlots_24 : decode prog_12_method_40_code 24 = .ok (.if_icmp .ge 85, 3) := by decide +kernel
theorem d_Mo_findSlots_27 : decode prog_12_method_40_code 27 = .ok (.aload_n 0, 1) := by decide +kernel
theorem d_Mo_findSlots_28 : decode prog_12_method_40_code 28 = .ok (.iload_n 1, 1) := by decide +kernel
theorem d_Mo_findSlots_29 : decode prog_12_method_40_code 29 = .ok (.invokevirtual 210, 3) := by decide +kernel
theorem d_Mo_findSlots_32 : decode prog_12_method_40_code 32 = .ok (.ifCond .le 71, 3) := by decide +kernel
theorem d_Mo_findSlots_35 : decode prog_12_method_40_code 35 = .ok (.aload_n 0, 1) := by decide +kernel
theorem d_Mo_findSlots_36 : decode prog_12_method_40_code 36 = .ok (.getfield 13, 3) := by decide +kernel
theorem d_Mo_findSlots_39 : decode prog_12_method_40_code 39 = .ok (.aload_n 0, 1) := by decide +kernel
theorem d_Mo_findSlots_40 : decode prog_12_method_40_code 40 = .ok (.getfield 31, 3) := by decide +kernel
theorem d_Mo_findSlots_43 : decode prog_12_method_40_code 43 = .ok (.sipush 330, 3) := by decide +kernel
theorem d_Mo_findSlots_46 : decode prog_12_method_40_code 46 = .ok (.iload_n 1, 1) := by decide +kernel
theorem d_Mo_findSlots_47 : decode prog_12_method_40_code 47 = .ok (.imul, 1) := by decide +kernel
theorem d_Mo_findSlots_48 : decode prog_12_method_40_code 48 = .ok (.iaload, 1) := by decide +kernel
theorem d_Mo_findSlots_49 : decode prog_12_method_40_code 49 = .ok (.iaload, 1) := by decide +kernel
theorem d_Mo_findSlots_50 : decode prog_12_method_40_code 50 = .ok (.aload_n 0, 1) := by decide +kernel
theorem d_Mo_findSlots_51 : decode prog_12_method_40_code 51 = .ok (.getfield 150, 3) := by decide +kernel
theorem d_Mo_findSlots_54 : decode prog_12_method_40_code 54 = .ok (.if_icmp .le 49, 3) := by decide +kernel
theorem d_Mo_findSlots_57 : decode prog_12_method_40_code 57 = .ok (.aload_n 0, 1) := by decide +kernel
theorem d_Mo_findSlots_58 : decode prog_12_method_40_code 58 = .ok (.getfield 31, 3) := by decide +kernel
theorem d_Mo_findSlots_61 : decode prog_12_method_40_code 61 = .ok (.sipush 330, 3) := by decide +kernel
theorem d_Mo_findSlots_64 : decode prog_12_method_40_code 64 = .ok (.iload_n 1, 1) := by decide +kernel
theorem d_Mo_findSlots_65 : decode prog_12_method_40_code 65 = .ok (.imul, 1) := by decide +kernel
theorem d_Mo_findSlots_66 : decode prog_12_method_40_code 66 = .ok (.iaload, 1) := by decide +kernel
theorem d_Mo_findSlots_67 : decode prog_12_method_40_code 67 = .ok (.istore_n 2, 1) := by decide +kernel
theorem d_Mo_findSlots_68 : decode prog_12_method_40_code 68 = .ok (.aload_n 0, 1) := by decide +kernel
theorem d_Mo_findSlots_69 : decode prog_12_method_40_code 69 = .ok (.aload_n 0, 1) := by decide +kernel
theorem d_Mo_findSlots_70 : decode prog_12_method_40_code 70 = .ok (.getfield 13, 3) := by decide +kernel
theorem d_Mo_findSlots_73 : decode prog_12_method_40_code 73 = .ok (.iload_n 2, 1) := by decide +kernel
theorem d_Mo_findSlots_74 : decode prog_12_method_40_code 74 = .ok (.iaload, 1) := by decide +kernel
theorem d_Mo_findSlots_75 : decode prog_12_method_40_code 75 = .ok (.putfield 150, 3) := by decide +kernel
theorem d_Mo_findSlots_78 : decode prog_12_method_40_code 78 = .ok (.aload_n 0, 1) := by decide +kernel
theorem d_Mo_findSlots_79 : decode prog_12_method_40_code 79 = .ok (.aload_n 0, 1) := by decide +kernel
theorem d_Mo_findSlots_80 : decode prog_12_method_40_code 80 = .ok (.getfield 16, 3) := by decide +kernel
theorem d_Mo_findSlots_83 : decode prog_12_method_40_code 83 = .ok (.iload_n 2, 1) := by decide +kernel
theorem d_Mo_findSlots_84 : decode prog_12_method_40_code 84 = .ok (.iaload, 1) := by decide +kernel
theorem d_Mo_findSlots_85 : decode prog_12_method_40_code 85 = .ok (.putfield 135, 3) := by decide +kernel
theorem d_Mo_findSlots_88 : decode prog_12_method_40_code 88 = .ok (.aload_n 0, 1) := by decide +kernel
theorem d_Mo_findSlots_89 : decode prog_12_method_40_code 89 = .ok (.aload_n 0, 1) := by decide +kernel
theorem d_Mo_findSlots_90 : decode prog_12_method_40_code 90 = .ok (.getfield 19, 3) := by decide +kernel
theorem d_Mo_findSlots_93 : decode prog_12_method_40_code 93 = .ok (.iload_n 2, 1) := by decide +kernel
theorem d_Mo_findSlots_94 : decode prog_12_method_40_code 94 = .ok (.iaload, 1) := by decide +kernel
theorem d_Mo_findSlots_95 : decode prog_12_method_40_code 95 = .ok (.putfield 53, 3) := by decide +kernel
theorem d_Mo_findSlots_98 : decode prog_12_method_40_code 98 = .ok (.aload_n 0, 1) := by decide +kernel
theorem d_Mo_findSlots_99 : decode prog_12_method_40_code 99 = .ok (.iload_n 1, 1) := by decide +kernel
theorem d_Mo_findSlots_100 : decode prog_12_method_40_code 100 = .ok (.putfield 143, 3) := by decide +kernel
theorem d_Mo_findSlots_103 : decode prog_12_method_40_code 103 = .ok (.iinc 1 1, 3) := by decide +kernel
theorem d_Mo_findSlots_106 : decode prog_12_method_40_code 106 = .ok (.goto (-84), 3) := by decide +kernel
theorem d_Mo_findSlots_109 : decode prog_12_method_40_code 109 = .ok (.aload_n 0, 1) := by decide +kernel
theorem d_Mo_findSlots_110 : decode prog_12_method_40_code 110 = .ok (.iconst 0, 1) := by decide +kernel
theorem d_Mo_findSlots_111 : decode prog_12_method_40_code 111 = .ok (.putfield 139, 3) := by decide +kernel
theorem d_Mo_findSlots_114 : decode prog_12_method_40_code 114 = .ok (.return_, 1) := by decide +kernel
theorem d_Mo_findSnapshot_0 : decode prog_12_method_41_code 0 = .ok (.aload_n 0, 1) := by decide +kernel
theorem d_Mo_findSnapshot_1 : decode prog_12_method_41_code 1 = .ok (.iconst 0, 1) := by decide +kernel
theorem d_Mo_findSnapshot_2 : decode prog_12_method_41_code 2 = .ok (.putfield 163, 3) := by decide +kernel
theorem d_Mo_findSnapshot_5 : decode prog_12_method_41_code 5 = .ok (.aload_n 0, 1) := by decide +kernel
theorem d_Mo_findSnapshot_6 : decode prog_12_method_41_code 6 = .ok (.iconst 0, 1) := by decide +kernel
theorem d_Mo_findSnapshot_7 : decode prog_12_method_41_code 7 = .ok (.putfield 166, 3) := by decide +kernel
theorem d_Mo_findSnapshot_10 : decode prog_12_method_41_code 10 = .ok (.aload_n 0, 1) := by decide +kernel
theorem d_Mo_findSnapshot_11 : decode prog_12_method_41_code 11 = .ok (.aload_n 0, 1) := by decide +kernel
theorem d_Mo_findSnapshot_12 : decode prog_12_method_41_code 12 = .ok (.getfield 69, 3) := by decide +kernel
theorem d_Mo_findSnapshot_15 : decode prog_12_method_41_code 15 = .ok (.putfield 72, 3) := by decide +kernel
theorem d_Mo_findSnapshot_18 : decode prog_12_method_41_code 18 = .ok (.aload_n 0, 1) := by decide +kernel
theorem d_Mo_findSnapshot_19 : decode prog_12_method_41_code 19 = .ok (.iconst (-1), 1) := by decide +kernel
theorem d_Mo_findSnapshot_20 : decode prog_12_method_41_code 20 = .ok (.putfield 75, 3) := by decide +kernel
theorem d_Mo_findSnapshot_23 : decode prog_12_method_41_code 23 = .ok (.iconst 2, 1) := by decide +kernel
theorem d_Mo_findSnapshot_24 : decode prog_12_method_41_code 24 = .ok (.istore_n 1, 1) := by decide +kernel
theorem d_Mo_findSnapshot_25 : decode prog_12_method_41_code 25 = .ok (.iload_n 1, 1) := by decide +kernel
theorem d_Mo_findSnapshot_26 : decode prog_12_method_41_code 26 = .ok (.iconst 4, 1) := by decide +kernel
theorem d_Mo_findSnapshot_27 : decode prog_12_method_41_code 27 = .ok (.if_icmp .ge 85, 3) := by decide +kernel
theorem d_Mo_findSnapshot_30 : decode prog_12_method_41_code 30 = .ok (.aload_n 0, 1) := by decide +kernel
theorem d_Mo_findSnapshot_31 : decode prog_12_method_41_code 31 = .ok (.iload_n 1, 1) := by decide +kernel
theorem d_Mo_findSnapshot_32 : decode prog_12_method_41_code 32 = .ok (.invokevirtual 210, 3) := by decide +kernel
theorem d_Mo_findSnapshot_35 : decode prog_12_method_41_code 35 = .ok (.ifCond .le 71, 3) := by decide +kernel
theorem d_Mo_findSnapshot_38 : decode prog_12_method_41_code 38 = .ok (.aload_n 0, 1) := by decide +kernel
theorem d_Mo_findSnapshot_39 : decode prog_12_method_41_code 39 = .ok (.getfield 13, 3) := by decide +kernel
theorem d_Mo_findSnapshot_42 : decode prog_12_method_41_code 42 = .ok (.aload_n 0, 1) := by decide +kernel
theorem d_Mo_findSnapshot_43 : decode prog_12_method_41_code 43 = .ok (.getfield 31, 3) := by decide +kernel
theorem d_Mo_findSnapshot_46 : decode prog_12_method_41_code 46 = .ok (.sipush 330, 3) := by decide +kernel
theorem d_Mo_findSnapshot_49 : decode prog_12_method_41_code 49 = .ok (.iload_n 1, 1) := by decide +kernel
theorem d_Mo_findSnapshot_50 : decode prog_12_method_41_code 50 = .ok (.imul, 1) := by decide +kernel
theorem d_Mo_findSnapshot_51 : decode prog_12_method_41_code 51 = .ok (.iaload, 1) := by decide +kernel
theorem d_Mo_findSnapshot_52 : decode prog_12_method_41_code 52 = .ok (.iaload, 1) := by decide +kernel
theorem d_Mo_findSnapshot_53 : decode prog_12_method_41_code 53 = .ok (.aload_n 0, 1) := by decide +kernel
theorem d_Mo_findSnapshot_54 : decode prog_12_method_41_code 54 = .ok (.getfield 163, 3) := by decide +kernel
theorem d_Mo_findSnapshot_57 : decode prog_12_method_41_code 57 = .ok (.if_icmp .le 49, 3) := by decide +kernel
theorem d_Mo_findSnapshot_60 : decode prog_12_method_41_code 60 = .ok (.aload_n 0, 1) := by decide +kernel
theorem d_Mo_findSnapshot_61 : decode prog_12_method_41_code 61 = .ok (.getfield 31, 3) := by decide +kernel
theorem d_Mo_findSnapshot_64 : decode prog_12_method_41_code 64 = .ok (.sipush 330, 3) := by decide +kernel
theorem d_Mo_findSnapshot_67 : decode prog_12_method_41_code 67 = .ok (.iload_n 1, 1) := by decide +kernel
theorem d_Mo_findSnapshot_68 : decode prog_12_method_41_code 68 = .ok (.imul, 1) := by decide +kernel
theorem d_Mo_findSnapshot_69 : decode prog_12_method_41_code 69 = .ok (.iaload, 1) := by decide +kernel
theorem d_Mo_findSnapshot_70 : decode prog_12_method_41_code 70 = .ok (.istore_n 2, 1) := by decide +kernel
theorem d_Mo_findSnapshot_71 : decode prog_12_method_41_code 71 = .ok (.aload_n 0, 1) := by decide +kernel
theorem d_Mo_findSnapshot_72 : decode prog_12_method_41_code 72 = .ok (.aload_n 0, 1) := by decide +kernel
theorem d_Mo_findSnapshot_73 : decode prog_12_method_41_code 73 = .ok (.getfield 13, 3) := by decide +kernel
theorem d_Mo_findSnapshot_76 : decode prog_12_method_41_code 76 = .ok (.iload_n 2, 1) := by decide +kernel
theorem d_Mo_findSnapshot_77 : decode prog_12_method_41_code 77 = .ok (.iaload, 1) := by decide +kernel
theorem d_Mo_findSnapshot_78 : decode prog_12_method_41_code 78 = .ok (.putfield 163, 3) := by decide +kernel
theorem d_Mo_findSnapshot_81 : decode prog_12_method_41_code 81 = .ok (.aload_n 0, 1) := by decide +kernel
theorem d_Mo_findSnapshot_82 : decode prog_12_method_41_code 82 = .ok (.aload_n 0, 1) := by decide +kernel
theorem d_Mo_findSnapshot_83 : decode prog_12_method_41_code 83 = .ok (.getfield 16, 3) := by decide +kernel
theorem d_Mo_findSnapshot_86 : decode prog_12_method_41_code 86 = .ok (.iload_n 2, 1) := by decide +kernel
theorem d_Mo_findSnapshot_87 : decode prog_12_method_41_code 87 = .ok (.iaload, 1) := by decide +kernel
theorem d_Mo_findSnapshot_88 : decode prog_12_method_41_code 88 = .ok (.putfield 166, 3) := by decide +kernel
theorem d_Mo_findSnapshot_91 : decode prog_12_method_41_code 91 = .ok (.aload_n 0, 1) := by decide +kernel
theorem d_Mo_findSnapshot_92 : decode prog_12_method_41_code 92 = .ok (.aload_n 0, 1) := by decide +kernel
theorem d_Mo_findSnapshot_93 : decode prog_12_method_41_code 93 = .ok (.getfield 19, 3) := by decide +kernel
theorem d_Mo_findSnapshot_96 : decode prog_12_method_41_code 96 = .ok (.iload_n 2, 1) := by decide +kernel
theorem d_Mo_findSnapshot_97 : decode prog_12_method_41_code 97 = .ok (.iaload, 1) := by decide +kernel
theorem d_Mo_findSnapshot_98 : decode prog_12_method_41_code 98 = .ok (.putfield 72, 3) := by decide +kernel
theorem d_Mo_findSnapshot_101 : decode prog_12_method_41_code 101 = .ok (.aload_n 0, 1) := by decide +kernel
theorem d_Mo_findSnapshot_102 : decode prog_12_method_41_code 102 = .ok (.iload_n 1, 1) := by decide +kernel
theorem d_Mo_findSnapshot_103 : decode prog_12_method_41_code 103 = .ok (.putfield 75, 3) := by decide +kernel
theorem d_Mo_findSnapshot_106 : decode prog_12_method_41_code 106 = .ok (.iinc 1 1, 3) := by decide +kernel
theorem d_Mo_findSnapshot_109 : decode prog_12_method_41_code 109 = .ok (.goto (-84), 3) := by decide +kernel
theorem d_Mo_findSnapshot_112 : decode prog_12_method_41_code 112 = .ok (.return_, 1) := by decide +kernel
theorem d_Mo_firstSegment_0 : decode prog_12_method_42_code 0 = .ok (.iconst (-1), 1) := by decide +kernel
theorem d_Mo_firstSegment_1 : decode prog_12_method_42_code 1 = .ok (.istore_n 1, 1) := by decide +kernel
theorem d_Mo_firstSegment_2 : decode prog_12_method_42_code 2 = .ok (.iconst 4, 1) := by decide +kernel
theorem d_Mo_firstSegment_3 : decode prog_12_method_42_code 3 = .ok (.istore_n 2, 1) := by decide +kernel
theorem d_Mo_firstSegment_4 : decode prog_12_method_42_code 4 = .ok (.iload_n 2, 1) := by decide +kernel
theorem d_Mo_firstSegment_5 : decode prog_12_method_42_code 5 = .ok (.bipush 16, 2) := by decide +kernel
theorem d_Mo_firstSegment_7 : decode prog_12_method_42_code 7 = .ok (.if_icmp .ge 50, 3) := by decide +kernel
end
section
theorem d_Mo_firstSegment_10 : decode prog_12_method_42_code 10 = .ok (.aload_n 0, 1) := by decide +kernel
theorem d_Mo_firstSegment_11 : decode prog_12_method_42_code 11 = .ok (.iload_n 2, 1) := by decide +kernel
theorem d_Mo_firstSegment_12 : decode prog_12_method_42_code 12 = .ok (.invokevirtual 210, 3) := by decide +kernel
theorem d_Mo_firstSegment_15 : decode prog_12_method_42_code 15 = .ok (.ifCond .le 36, 3) := by decide +kernel
theorem d_Mo_firstSegment_18 : decode prog_12_method_42_code 18 = .ok (.aload_n 0, 1) := by decide +kernel
theorem d_Mo_firstSegment_19 : decode prog_12_method_42_code 19 = .ok (.iload_n 2, 1) := by decide +kernel
theorem d_Mo_firstSegment_20 : decode prog_12_method_42_code 20 = .ok (.invokevirtual 187, 3) := by decide +kernel
theorem d_Mo_firstSegment_23 : decode prog_12_method_42_code 23 = .ok (.aload_n 0, 1) := by decide +kernel
theorem d_Mo_firstSegment_24 : decode prog_12_method_42_code 24 = .ok (.getfield 163, 3) := by decide +kernel
theorem d_Mo_firstSegment_27 : decode prog_12_method_42_code 27 = .ok (.iconst 1, 1) := by decide +kernel
theorem d_Mo_firstSegment_28 : decode prog_12_method_42_code 28 = .ok (.iadd, 1) := by decide +kernel
theorem d_Mo_firstSegment_29 : decode prog_12_method_42_code 29 = .ok (.if_icmp .gt 22, 3) := by decide +kernel
theorem d_Mo_firstSegment_32 : decode prog_12_method_42_code 32 = .ok (.iload_n 1, 1) := by decide +kernel
theorem d_Mo_firstSegment_33 : decode prog_12_method_42_code 33 = .ok (.ifCond .lt 16, 3) := by decide +kernel
theorem d_Mo_firstSegment_36 : decode prog_12_method_42_code 36 = .ok (.aload_n 0, 1) := by decide +kernel
theorem d_Mo_firstSegment_37 : decode prog_12_method_42_code 37 = .ok (.iload_n 2, 1) := by decide +kernel
theorem d_Mo_firstSegment_38 : decode prog_12_method_42_code 38 = .ok (.invokevirtual 187, 3) := by decide +kernel
theorem d_Mo_firstSegment_41 : decode prog_12_method_42_code 41 = .ok (.aload_n 0, 1) := by decide +kernel
theorem d_Mo_firstSegment_42 : decode prog_12_method_42_code 42 = .ok (.iload_n 1, 1) := by decide +kernel
theorem d_Mo_firstSegment_43 : decode prog_12_method_42_code 43 = .ok (.invokevirtual 187, 3) := by decide +kernel
theorem d_Mo_firstSegment_46 : decode prog_12_method_42_code 46 = .ok (.if_icmp .le 5, 3) := by decide +kernel
theorem d_Mo_firstSegment_49 : decode prog_12_method_42_code 49 = .ok (.iload_n 2, 1) := by decide +kernel
theorem d_Mo_firstSegment_50 : decode prog_12_method_42_code 50 = .ok (.istore_n 1, 1) := by decide +kernel
theorem d_Mo_firstSegment_51 : decode prog_12_method_42_code 51 = .ok (.iinc 2 1, 3) := by decide +kernel
theorem d_Mo_firstSegment_54 : decode prog_12_method_42_code 54 = .ok (.goto (-50), 3) := by decide +kernel
theorem d_Mo_firstSegment_57 : decode prog_12_method_42_code 57 = .ok (.iload_n 1, 1) := by decide +kernel
theorem d_Mo_firstSegment_58 : decode prog_12_method_42_code 58 = .ok (.ifCond .ge 5, 3) := by decide +kernel
theorem d_Mo_firstSegment_61 : decode prog_12_method_42_code 61 = .ok (.iconst (-1), 1) := by decide +kernel
theorem d_Mo_firstSegment_62 : decode prog_12_method_42_code 62 = .ok (.ireturn, 1) := by decide +kernel
theorem d_Mo_firstSegment_63 : decode prog_12_method_42_code 63 = .ok (.aload_n 0, 1) := by decide +kernel
theorem d_Mo_firstSegment_64 : decode prog_12_method_42_code 64 = .ok (.iload_n 1, 1) := by decide +kernel
theorem d_Mo_firstSegment_65 : decode prog_12_method_42_code 65 = .ok (.invokevirtual 187, 3) := by decide +kernel
theorem d_Mo_firstSegment_68 : decode prog_12_method_42_code 68 = .ok (.aload_n 0, 1) := by decide +kernel
theorem d_Mo_firstSegment_69 : decode prog_12_method_42_code 69 = .ok (.getfield 163, 3) := by decide +kernel
theorem d_Mo_firstSegment_72 : decode prog_12_method_42_code 72 = .ok (.iconst 1, 1) := by decide +kernel
theorem d_Mo_firstSegment_73 : decode prog_12_method_42_code 73 = .ok (.iadd, 1) := by decide +kernel
theorem d_Mo_firstSegment_74 : decode prog_12_method_42_code 74 = .ok (.if_icmp .ne 31, 3) := by decide +kernel
theorem d_Mo_firstSegment_77 : decode prog_12_method_42_code 77 = .ok (.aload_n 0, 1) := by decide +kernel
theorem d_Mo_firstSegment_78 : decode prog_12_method_42_code 78 = .ok (.getfield 16, 3) := by decide +kernel
theorem d_Mo_firstSegment_81 : decode prog_12_method_42_code 81 = .ok (.aload_n 0, 1) := by decide +kernel
theorem d_Mo_firstSegment_82 : decode prog_12_method_42_code 82 = .ok (.getfield 31, 3) := by decide +kernel
theorem d_Mo_firstSegment_85 : decode prog_12_method_42_code 85 = .ok (.sipush 330, 3) := by decide +kernel
theorem d_Mo_firstSegment_88 : decode prog_12_method_42_code 88 = .ok (.iload_n 1, 1) := by decide +kernel
theorem d_Mo_firstSegment_89 : decode prog_12_method_42_code 89 = .ok (.imul, 1) := by decide +kernel
theorem d_Mo_firstSegment_90 : decode prog_12_method_42_code 90 = .ok (.iaload, 1) := by decide +kernel
theorem d_Mo_firstSegment_91 : decode prog_12_method_42_code 91 = .ok (.iaload, 1) := by decide +kernel
theorem d_Mo_firstSegment_92 : decode prog_12_method_42_code 92 = .ok (.aload_n 0, 1) := by decide +kernel
theorem d_Mo_firstSegment_93 : decode prog_12_method_42_code 93 = .ok (.getfield 166, 3) := by decide +kernel
theorem d_Mo_firstSegment_96 : decode prog_12_method_42_code 96 = .ok (.if_icmp .ne 7, 3) := by decide +kernel
theorem d_Mo_firstSegment_99 : decode prog_12_method_42_code 99 = .ok (.iload_n 1, 1) := by decide +kernel
theorem d_Mo_firstSegment_100 : decode prog_12_method_42_code 100 = .ok (.goto 4, 3) := by decide +kernel
theorem d_Mo_firstSegment_103 : decode prog_12_method_42_code 103 = .ok (.iconst (-1), 1) := by decide +kernel
theorem d_Mo_firstSegment_104 : decode prog_12_method_42_code 104 = .ok (.ireturn, 1) := by decide +kernel
theorem d_Mo_firstSegment_105 : decode prog_12_method_42_code 105 = .ok (.aload_n 0, 1) := by decide +kernel
theorem d_Mo_firstSegment_106 : decode prog_12_method_42_code 106 = .ok (.getfield 163, 3) := by decide +kernel
theorem d_Mo_firstSegment_109 : decode prog_12_method_42_code 109 = .ok (.aload_n 0, 1) := by decide +kernel
theorem d_Mo_firstSegment_110 : decode prog_12_method_42_code 110 = .ok (.iload_n 1, 1) := by decide +kernel
theorem d_Mo_firstSegment_111 : decode prog_12_method_42_code 111 = .ok (.invokevirtual 187, 3) := by decide +kernel
theorem d_Mo_firstSegment_114 : decode prog_12_method_42_code 114 = .ok (.isub, 1) := by decide +kernel
theorem d_Mo_firstSegment_115 : decode prog_12_method_42_code 115 = .ok (.iconst 1, 1) := by decide +kernel
theorem d_Mo_firstSegment_116 : decode prog_12_method_42_code 116 = .ok (.iadd, 1) := by decide +kernel
theorem d_Mo_firstSegment_117 : decode prog_12_method_42_code 117 = .ok (.istore_n 2, 1) := by decide +kernel
theorem d_Mo_firstSegment_118 : decode prog_12_method_42_code 118 = .ok (.iload_n 2, 1) := by decide +kernel
theorem d_Mo_firstSegment_119 : decode prog_12_method_42_code 119 = .ok (.aload_n 0, 1) := by decide +kernel
theorem d_Mo_firstSegment_120 : decode prog_12_method_42_code 120 = .ok (.iload_n 1, 1) := by decide +kernel
theorem d_Mo_firstSegment_121 : decode prog_12_method_42_code 121 = .ok (.invokevirtual 210, 3) := by decide +kernel
theorem d_Mo_firstSegment_124 : decode prog_12_method_42_code 124 = .ok (.if_icmp .ge 31, 3) := by decide +kernel
theorem d_Mo_firstSegment_127 : decode prog_12_method_42_code 127 = .ok (.aload_n 0, 1) := by decide +kernel
theorem d_Mo_firstSegment_128 : decode prog_12_method_42_code 128 = .ok (.getfield 16, 3) := by decide +kernel
theorem d_Mo_firstSegment_131 : decode prog_12_method_42_code 131 = .ok (.aload_n 0, 1) := by decide +kernel
theorem d_Mo_firstSegment_132 : decode prog_12_method_42_code 132 = .ok (.getfield 31, 3) := by decide +kernel
theorem d_Mo_firstSegment_135 : decode prog_12_method_42_code 135 = .ok (.sipush 330, 3) := by decide +kernel
theorem d_Mo_firstSegment_138 : decode prog_12_method_42_code 138 = .ok (.iload_n 1, 1) := by decide +kernel
theorem d_Mo_firstSegment_139 : decode prog_12_method_42_code 139 = .ok (.imul, 1) := by decide +kernel
theorem d_Mo_firstSegment_140 : decode prog_12_method_42_code 140 = .ok (.iload_n 2, 1) := by decide +kernel
theorem d_Mo_firstSegment_141 : decode prog_12_method_42_code 141 = .ok (.iadd, 1) := by decide +kernel
theorem d_Mo_firstSegment_142 : decode prog_12_method_42_code 142 = .ok (.iaload, 1) := by decide +kernel
theorem d_Mo_firstSegment_143 : decode prog_12_method_42_code 143 = .ok (.iaload, 1) := by decide +kernel
theorem d_Mo_firstSegment_144 : decode prog_12_method_42_code 144 = .ok (.aload_n 0, 1) := by decide +kernel
theorem d_Mo_firstSegment_145 : decode prog_12_method_42_code 145 = .ok (.getfield 166, 3) := by decide +kernel
theorem d_Mo_firstSegment_148 : decode prog_12_method_42_code 148 = .ok (.if_icmp .ne 7, 3) := by decide +kernel
theorem d_Mo_firstSegment_151 : decode prog_12_method_42_code 151 = .ok (.iload_n 1, 1) := by decide +kernel
theorem d_Mo_firstSegment_152 : decode prog_12_method_42_code 152 = .ok (.goto 4, 3) := by decide +kernel
theorem d_Mo_firstSegment_155 : decode prog_12_method_42_code 155 = .ok (.iconst (-1), 1) := by decide +kernel
theorem d_Mo_firstSegment_156 : decode prog_12_method_42_code 156 = .ok (.ireturn, 1) := by decide +kernel
theorem d_Mo_join_0 : decode prog_12_method_43_code 0 = .ok (.aload_n 0, 1) := by decide +kernel
theorem d_Mo_join_1 : decode prog_12_method_43_code 1 = .ok (.iload_n 1, 1) := by decide +kernel
theorem d_Mo_join_2 : decode prog_12_method_43_code 2 = .ok (.invokevirtual 210, 3) := by decide +kernel
theorem d_Mo_join_5 : decode prog_12_method_43_code 5 = .ok (.istore_n 2, 1) := by decide +kernel
theorem d_Mo_join_6 : decode prog_12_method_43_code 6 = .ok (.iconst 0, 1) := by decide +kernel
theorem d_Mo_join_7 : decode prog_12_method_43_code 7 = .ok (.istore_n 3, 1) := by decide +kernel
theorem d_Mo_join_8 : decode prog_12_method_43_code 8 = .ok (.iconst 0, 1) := by decide +kernel
theorem d_Mo_join_9 : decode prog_12_method_43_code 9 = .ok (.istore 4, 2) := by decide +kernel
theorem d_Mo_join_11 : decode prog_12_method_43_code 11 = .ok (.iload 4, 2) := by decide +kernel
theorem d_Mo_join_13 : decode prog_12_method_43_code 13 = .ok (.iload_n 2, 1) := by decide +kernel
theorem d_Mo_join_14 : decode prog_12_method_43_code 14 = .ok (.if_icmp .ge 84, 3) := by decide +kernel
theorem d_Mo_join_17 : decode prog_12_method_43_code 17 = .ok (.aload_n 0, 1) := by decide +kernel
theorem d_Mo_join_18 : decode prog_12_method_43_code 18 = .ok (.getfield 31, 3) := by decide +kernel
theorem d_Mo_join_21 : decode prog_12_method_43_code 21 = .ok (.sipush 330, 3) := by decide +kernel
theorem d_Mo_join_24 : decode prog_12_method_43_code 24 = .ok (.iload_n 1, 1) := by decide +kernel
theorem d_Mo_join_25 : decode prog_12_method_43_code 25 = .ok (.imul, 1) := by decide +kernel
theorem d_Mo_join_26 : decode prog_12_method_43_code 26 = .ok (.iload 4, 2) := by decide +kernel
theorem d_Mo_join_28 : decode prog_12_method_43_code 28 = .ok (.iadd, 1) := by decide +kernel
theorem d_Mo_join_29 : decode prog_12_method_43_code 29 = .ok (.iaload, 1) := by decide +kernel
theorem d_Mo_join_30 : decode prog_12_method_43_code 30 = .ok (.istore 5, 2) := by decide +kernel
theorem d_Mo_join_32 : decode prog_12_method_43_code 32 = .ok (.iload_n 3, 1) := by decide +kernel
theorem d_Mo_join_33 : decode prog_12_method_43_code 33 = .ok (.aload_n 0, 1) := by decide +kernel
theorem d_Mo_join_34 : decode prog_12_method_43_code 34 = .ok (.iload 5, 2) := by decide +kernel
theorem d_Mo_join_36 : decode prog_12_method_43_code 36 = .ok (.invokevirtual 115, 3) := by decide +kernel
theorem d_Mo_join_39 : decode prog_12_method_43_code 39 = .ok (.iadd, 1) := by decide +kernel
theorem d_Mo_join_40 : decode prog_12_method_43_code 40 = .ok (.istore_n 3, 1) := by decide +kernel
theorem d_Mo_join_41 : decode prog_12_method_43_code 41 = .ok (.iload 4, 2) := by decide +kernel
theorem d_Mo_join_43 : decode prog_12_method_43_code 43 = .ok (.ifCond .le 49, 3) := by decide +kernel
theorem d_Mo_join_46 : decode prog_12_method_43_code 46 = .ok (.aload_n 0, 1) := by decide +kernel
theorem d_Mo_join_47 : decode prog_12_method_43_code 47 = .ok (.getfield 13, 3) := by decide +kernel
theorem d_Mo_join_50 : decode prog_12_method_43_code 50 = .ok (.iload 5, 2) := by decide +kernel
theorem d_Mo_join_52 : decode prog_12_method_43_code 52 = .ok (.iaload, 1) := by decide +kernel
theorem d_Mo_join_53 : decode prog_12_method_43_code 53 = .ok (.aload_n 0, 1) := by decide +kernel
theorem d_Mo_join_54 : decode prog_12_method_43_code 54 = .ok (.getfield 163, 3) := by decide +kernel
theorem d_Mo_join_57 : decode prog_12_method_43_code 57 = .ok (.if_icmp .le 35, 3) := by decide +kernel
theorem d_Mo_join_60 : decode prog_12_method_43_code 60 = .ok (.aload_n 0, 1) := by decide +kernel
theorem d_Mo_join_61 : decode prog_12_method_43_code 61 = .ok (.getfield 60, 3) := by decide +kernel
theorem d_Mo_join_64 : decode prog_12_method_43_code 64 = .ok (.aload_n 0, 1) := by decide +kernel
theorem d_Mo_join_65 : decode prog_12_method_43_code 65 = .ok (.getfield 13, 3) := by decide +kernel
theorem d_Mo_join_68 : decode prog_12_method_43_code 68 = .ok (.iload 5, 2) := by decide +kernel
theorem d_Mo_join_70 : decode prog_12_method_43_code 70 = .ok (.iaload, 1) := by decide +kernel
theorem d_Mo_join_71 : decode prog_12_method_43_code 71 = .ok (.aload_n 0, 1) := by decide +kernel
theorem d_Mo_join_72 : decode prog_12_method_43_code 72 = .ok (.getfield 163, 3) := by decide +kernel
theorem d_Mo_join_75 : decode prog_12_method_43_code 75 = .ok (.isub, 1) := by decide +kernel
theorem d_Mo_join_76 : decode prog_12_method_43_code 76 = .ok (.iconst 1, 1) := by decide +kernel
theorem d_Mo_join_77 : decode prog_12_method_43_code 77 = .ok (.isub, 1) := by decide +kernel
theorem d_Mo_join_78 : decode prog_12_method_43_code 78 = .ok (.iload 5, 2) := by decide +kernel
theorem d_Mo_join_80 : decode prog_12_method_43_code 80 = .ok (.iastore, 1) := by decide +kernel
theorem d_Mo_join_81 : decode prog_12_method_43_code 81 = .ok (.aload_n 0, 1) := by decide +kernel
theorem d_Mo_join_82 : decode prog_12_method_43_code 82 = .ok (.aload_n 0, 1) := by decide +kernel
theorem d_Mo_join_83 : decode prog_12_method_43_code 83 = .ok (.getfield 13, 3) := by decide +kernel
theorem d_Mo_join_86 : decode prog_12_method_43_code 86 = .ok (.iload 5, 2) := by decide +kernel
theorem d_Mo_join_88 : decode prog_12_method_43_code 88 = .ok (.iaload, 1) := by decide +kernel
theorem d_Mo_join_89 : decode prog_12_method_43_code 89 = .ok (.putfield 169, 3) := by decide +kernel
theorem d_Mo_join_92 : decode prog_12_method_43_code 92 = .ok (.iinc 4 1, 3) := by decide +kernel
theorem d_Mo_join_95 : decode prog_12_method_43_code 95 = .ok (.goto (-84), 3) := by decide +kernel
theorem d_Mo_join_98 : decode prog_12_method_43_code 98 = .ok (.aload_n 0, 1) := by decide +kernel
theorem d_Mo_join_99 : decode prog_12_method_43_code 99 = .ok (.iload_n 1, 1) := by decide +kernel
theorem d_Mo_join_100 : decode prog_12_method_43_code 100 = .ok (.iload_n 3, 1) := by decide +kernel
theorem d_Mo_join_101 : decode prog_12_method_43_code 101 = .ok (.invokevirtual 118, 3) := by decide +kernel
theorem d_Mo_join_104 : decode prog_12_method_43_code 104 = .ok (.aload_n 0, 1) := by decide +kernel
theorem d_Mo_join_105 : decode prog_12_method_43_code 105 = .ok (.getfield 57, 3) := by decide +kernel
theorem d_Mo_join_108 : decode prog_12_method_43_code 108 = .ok (.aload_n 0, 1) := by decide +kernel
theorem d_Mo_join_109 : decode prog_12_method_43_code 109 = .ok (.getfield 175, 3) := by decide +kernel
theorem d_Mo_join_112 : decode prog_12_method_43_code 112 = .ok (.iload_n 1, 1) := by decide +kernel
theorem d_Mo_join_113 : decode prog_12_method_43_code 113 = .ok (.iastore, 1) := by decide +kernel
theorem d_Mo_join_114 : decode prog_12_method_43_code 114 = .ok (.aload_n 0, 1) := by decide +kernel
theorem d_Mo_join_115 : decode prog_12_method_43_code 115 = .ok (.dup, 1) := by decide +kernel
theorem d_Mo_join_116 : decode prog_12_method_43_code 116 = .ok (.getfield 175, 3) := by decide +kernel
theorem d_Mo_join_119 : decode prog_12_method_43_code 119 = .ok (.iconst 1, 1) := by decide +kernel
theorem d_Mo_join_120 : decode prog_12_method_43_code 120 = .ok (.iadd, 1) := by decide +kernel
theorem d_Mo_join_121 : decode prog_12_method_43_code 121 = .ok (.putfield 175, 3) := by decide +kernel
theorem d_Mo_join_124 : decode prog_12_method_43_code 124 = .ok (.return_, 1) := by decide +kernel
theorem d_Mo_isJoined_0 : decode prog_12_method_44_code 0 = .ok (.iconst 0, 1) := by decide +kernel
theorem d_Mo_isJoined_1 : decode prog_12_method_44_code 1 = .ok (.istore_n 2, 1) := by decide +kernel
theorem d_Mo_isJoined_2 : decode prog_12_method_44_code 2 = .ok (.iconst 0, 1) := by decide +kernel
theorem d_Mo_isJoined_3 : decode prog_12_method_44_code 3 = .ok (.istore_n 3, 1) := by decide +kernel
theorem d_Mo_isJoined_4 : decode prog_12_method_44_code 4 = .ok (.iload_n 3, 1) := by decide +kernel
theorem d_Mo_isJoined_5 : decode prog_12_method_44_code 5 = .ok (.aload_n 0, 1) := by decide +kernel
theorem d_Mo_isJoined_6 : decode prog_12_method_44_code 6 = .ok (.getfield 175, 3) := by decide +kernel
theorem d_Mo_isJoined_9 : decode prog_12_method_44_code 9 = .ok (.if_icmp .ge 29, 3) := by decide +kernel
theorem d_Mo_isJoined_12 : decode prog_12_method_44_code 12 = .ok (.iload_n 2, 1) := by decide +kernel
theorem d_Mo_isJoined_13 : decode prog_12_method_44_code 13 = .ok (.ifCond .ne 13, 3) := by decide +kernel
theorem d_Mo_isJoined_16 : decode prog_12_method_44_code 16 = .ok (.aload_n 0, 1) := by decide +kernel
theorem d_Mo_isJoined_17 : decode prog_12_method_44_code 17 = .ok (.getfield 57, 3) := by decide +kernel
theorem d_Mo_isJoined_20 : decode prog_12_method_44_code 20 = .ok (.iload_n 3, 1) := by decide +kernel
theorem d_Mo_isJoined_21 : decode prog_12_method_44_code 21 = .ok (.iaload, 1) := by decide +kernel
theorem d_Mo_isJoined_22 : decode prog_12_method_44_code 22 = .ok (.iload_n 1, 1) := by decide +kernel
theorem d_Mo_isJoined_23 : decode prog_12_method_44_code 23 = .ok (.if_icmp .ne 7, 3) := by decide +kernel
theorem d_Mo_isJoined_26 : decode prog_12_method_44_code 26 = .ok (.iconst 1, 1) := by decide +kernel
theorem d_Mo_isJoined_27 : decode prog_12_method_44_code 27 = .ok (.goto 4, 3) := by decide +kernel
theorem d_Mo_isJoined_30 : decode prog_12_method_44_code 30 = .ok (.iconst 0, 1) := by decide +kernel
theorem d_Mo_isJoined_31 : decode prog_12_method_44_code 31 = .ok (.istore_n 2, 1) := by decide +kernel
theorem d_Mo_isJoined_32 : decode prog_12_method_44_code 32 = .ok (.iinc 3 1, 3) := by decide +kernel
theorem d_Mo_isJoined_35 : decode prog_12_method_44_code 35 = .ok (.goto (-31), 3) := by decide +kernel
theorem d_Mo_isJoined_38 : decode prog_12_method_44_code 38 = .ok (.iload_n 2, 1) := by decide +kernel
theorem d_Mo_isJoined_39 : decode prog_12_method_44_code 39 = .ok (.ireturn, 1) := by decide +kernel
theorem d_Mo_nextSegment_0 : decode prog_12_method_45_code 0 = .ok (.iconst 4, 1) := by decide +kernel
theorem d_Mo_nextSegment_1 : decode prog_12_method_45_code 1 = .ok (.istore_n 1, 1) := by decide +kernel
theorem d_Mo_nextSegment_2 : decode prog_12_method_45_code 2 = .ok (.iload_n 1, 1) := by decide +kernel
theorem d_Mo_nextSegment_3 : decode prog_12_method_45_code 3 = .ok (.bipush 16, 2) := by decide +kernel
theorem d_Mo_nextSegment_5 : decode prog_12_method_45_code 5 = .ok (.if_icmp .ge 67, 3) := by decide +kernel
theorem d_Mo_nextSegment_8 : decode prog_12_method_45_code 8 = .ok (.aload_n 0, 1) := by decide +kernel
theorem d_Mo_nextSegment_9 : decode prog_12_method_45_code 9 = .ok (.iload_n 1, 1) := by decide +kernel
theorem d_Mo_nextSegment_10 : decode prog_12_method_45_code 10 = .ok (.invokevirtual 213, 3) := by decide +kernel
theorem d_Mo_nextSegment_13 : decode prog_12_method_45_code 13 = .ok (.ifCond .ne 53, 3) := by decide +kernel
theorem d_Mo_nextSegment_16 : decode prog_12_method_45_code 16 = .ok (.aload_n 0, 1) := by decide +kernel
theorem d_Mo_nextSegment_17 : decode prog_12_method_45_code 17 = .ok (.iload_n 1, 1) := by decide +kernel
theorem d_Mo_nextSegment_18 : decode prog_12_method_45_code 18 = .ok (.invokevirtual 210, 3) := by decide +kernel
theorem d_Mo_nextSegment_21 : decode prog_12_method_45_code 21 = .ok (.ifCond .le 45, 3) := by decide +kernel
theorem d_Mo_nextSegment_24 : decode prog_12_method_45_code 24 = .ok (.aload_n 0, 1) := by decide +kernel
theorem d_Mo_nextSegment_25 : decode prog_12_method_45_code 25 = .ok (.iload_n 1, 1) := by decide +kernel
theorem d_Mo_nextSegment_26 : decode prog_12_method_45_code 26 = .ok (.invokevirtual 187, 3) := by decide +kernel
theorem d_Mo_nextSegment_29 : decode prog_12_method_45_code 29 = .ok (.aload_n 0, 1) := by decide +kernel
theorem d_Mo_nextSegment_30 : decode prog_12_method_45_code 30 = .ok (.getfield 169, 3) := by decide +kernel
theorem d_Mo_nextSegment_33 : decode prog_12_method_45_code 33 = .ok (.iconst 1, 1) := by decide +kernel
theorem d_Mo_nextSegment_34 : decode prog_12_method_45_code 34 = .ok (.iadd, 1) := by decide +kernel
theorem d_Mo_nextSegment_35 : decode prog_12_method_45_code 35 = .ok (.if_icmp .ne 31, 3) := by decide +kernel
theorem d_Mo_nextSegment_38 : decode prog_12_method_45_code 38 = .ok (.aload_n 0, 1) := by decide +kernel
theorem d_Mo_nextSegment_39 : decode prog_12_method_45_code 39 = .ok (.getfield 16, 3) := by decide +kernel
theorem d_Mo_nextSegment_42 : decode prog_12_method_45_code 42 = .ok (.aload_n 0, 1) := by decide +kernel
theorem d_Mo_nextSegment_43 : decode prog_12_method_45_code 43 = .ok (.getfield 31, 3) := by decide +kernel
theorem d_Mo_nextSegment_46 : decode prog_12_method_45_code 46 = .ok (.sipush 330, 3) := by decide +kernel
theorem d_Mo_nextSegment_49 : decode prog_12_method_45_code 49 = .ok (.iload_n 1, 1) := by decide +kernel
theorem d_Mo_nextSegment_50 : decode prog_12_method_45_code 50 = .ok (.imul, 1) := by decide +kernel
theorem d_Mo_nextSegment_51 : decode prog_12_method_45_code 51 = .ok (.iaload, 1) := by decide +kernel
theorem d_Mo_nextSegment_52 : decode prog_12_method_45_code 52 = .ok (.iaload, 1) := by decide +kernel
theorem d_Mo_nextSegment_53 : decode prog_12_method_45_code 53 = .ok (.aload_n 0, 1) := by decide +kernel
theorem d_Mo_nextSegment_54 : decode prog_12_method_45_code 54 = .ok (.aload_n 0, 1) := by decide +kernel
theorem d_Mo_nextSegment_55 : decode prog_12_method_45_code 55 = .ok (.getfield 169, 3) := by decide +kernel
theorem d_Mo_nextSegment_58 : decode prog_12_method_45_code 58 = .ok (.invokevirtual 172, 3) := by decide +kernel
theorem d_Mo_nextSegment_61 : decode prog_12_method_45_code 61 = .ok (.if_icmp .ne 5, 3) := by decide +kernel
theorem d_Mo_nextSegment_64 : decode prog_12_method_45_code 64 = .ok (.iload_n 1, 1) := by decide +kernel
theorem d_Mo_nextSegment_65 : decode prog_12_method_45_code 65 = .ok (.ireturn, 1) := by decide +kernel
theorem d_Mo_nextSegment_66 : decode prog_12_method_45_code 66 = .ok (.iinc 1 1, 3) := by decide +kernel
theorem d_Mo_nextSegment_69 : decode prog_12_method_45_code 69 = .ok (.goto (-67), 3) := by decide +kernel
theorem d_Mo_nextSegment_72 : decode prog_12_method_45_code 72 = .ok (.iconst (-1), 1) := by decide +kernel
theorem d_Mo_nextSegment_73 : decode prog_12_method_45_code 73 = .ok (.ireturn, 1) := by decide +kernel
theorem d_Mo_crash_0 : decode prog_12_method_46_code 0 = .ok (.aload_n 0, 1) := by decide +kernel
theorem d_Mo_crash_1 : decode prog_12_method_46_code 1 = .ok (.iconst 0, 1) := by decide +kernel
theorem d_Mo_crash_2 : decode prog_12_method_46_code 2 = .ok (.putfield 78, 3) := by decide +kernel
theorem d_Mo_crash_5 : decode prog_12_method_46_code 5 = .ok (.lload_n 1, 1) := by decide +kernel
theorem d_Mo_crash_6 : decode prog_12_method_46_code 6 = .ok (.lstore_n 3, 1) := by decide +kernel
theorem d_Mo_crash_7 : decode prog_12_method_46_code 7 = .ok (.iconst 0, 1) := by decide +kernel
theorem d_Mo_crash_8 : decode prog_12_method_46_code 8 = .ok (.istore 5, 2) := by decide +kernel
theorem d_Mo_crash_10 : decode prog_12_method_46_code 10 = .ok (.iload 5, 2) := by decide +kernel
theorem d_Mo_crash_12 : decode prog_12_method_46_code 12 = .ok (.bipush 16, 2) := by decide +kernel
theorem d_Mo_crash_14 : decode prog_12_method_46_code 14 = .ok (.if_icmp .ge 108, 3) := by decide +kernel
theorem d_Mo_crash_17 : decode prog_12_method_46_code 17 = .ok (.lload_n 3, 1) := by decide +kernel
theorem d_Mo_crash_18 : decode prog_12_method_46_code 18 = .ok (.ldc2_w 217, 3) := by decide +kernel
theorem d_Mo_crash_21 : decode prog_12_method_46_code 21 = .ok (.lmul, 1) := by decide +kernel
theorem d_Mo_crash_22 : decode prog_12_method_46_code 22 = .ok (.ldc2_w 219, 3) := by decide +kernel
theorem d_Mo_crash_25 : decode prog_12_method_46_code 25 = .ok (.ladd, 1) := by decide +kernel
theorem d_Mo_crash_26 : decode prog_12_method_46_code 26 = .ok (.lstore_n 3, 1) := by decide +kernel
theorem d_Mo_crash_27 : decode prog_12_method_46_code 27 = .ok (.lload_n 3, 1) := by decide +kernel
theorem d_Mo_crash_28 : decode prog_12_method_46_code 28 = .ok (.bipush 33, 2) := by decide +kernel
theorem d_Mo_crash_30 : decode prog_12_method_46_code 30 = .ok (.lushr, 1) := by decide +kernel
theorem d_Mo_crash_31 : decode prog_12_method_46_code 31 = .ok (.ldc2_w 221, 3) := by decide +kernel
theorem d_Mo_crash_34 : decode prog_12_method_46_code 34 = .ok (.land, 1) := by decide +kernel
theorem d_Mo_crash_35 : decode prog_12_method_46_code 35 = .ok (.lstore 6, 2) := by decide +kernel
theorem d_Mo_crash_37 : decode prog_12_method_46_code 37 = .ok (.lload_n 3, 1) := by decide +kernel
theorem d_Mo_crash_38 : decode prog_12_method_46_code 38 = .ok (.bipush 61, 2) := by decide +kernel
theorem d_Mo_crash_40 : decode prog_12_method_46_code 40 = .ok (.lushr, 1) := by decide +kernel
theorem d_Mo_crash_41 : decode prog_12_method_46_code 41 = .ok (.lconst 0, 1) := by decide +kernel
theorem d_Mo_crash_42 : decode prog_12_method_46_code 42 = .ok (.lcmp, 1) := by decide +kernel
theorem d_Mo_crash_43 : decode prog_12_method_46_code 43 = .ok (.ifCond .ne 7, 3) := by decide +kernel
theorem d_Mo_crash_46 : decode prog_12_method_46_code 46 = .ok (.iconst 0, 1) := by decide +kernel
theorem d_Mo_crash_47 : decode prog_12_method_46_code 47 = .ok (.goto 31, 3) := by decide +kernel
theorem d_Mo_crash_50 : decode prog_12_method_46_code 50 = .ok (.iconst 1, 1) := by decide +kernel
theorem d_Mo_crash_51 : decode prog_12_method_46_code 51 = .ok (.lload 6, 2) := by decide +kernel
theorem d_Mo_crash_53 : decode prog_12_method_46_code 53 = .ok (.ldc2_w 223, 3) := by decide +kernel
theorem d_Mo_crash_56 : decode prog_12_method_46_code 56 = .ok (.aload_n 0, 1) := by decide +kernel
theorem d_Mo_crash_57 : decode prog_12_method_46_code 57 = .ok (.getfield 37, 3) := by decide +kernel
theorem d_Mo_crash_60 : decode prog_12_method_46_code 60 = .ok (.iload 5, 2) := by decide +kernel
theorem d_Mo_crash_62 : decode prog_12_method_46_code 62 = .ok (.iaload, 1) := by decide +kernel
theorem d_Mo_crash_63 : decode prog_12_method_46_code 63 = .ok (.aload_n 0, 1) := by decide +kernel
theorem d_Mo_crash_64 : decode prog_12_method_46_code 64 = .ok (.getfield 44, 3) := by decide +kernel
theorem d_Mo_crash_67 : decode prog_12_method_46_code 67 = .ok (.iload 5, 2) := by decide +kernel
theorem d_Mo_crash_69 : decode prog_12_method_46_code 69 = .ok (.iaload, 1) := by decide +kernel
theorem d_Mo_crash_70 : decode prog_12_method_46_code 70 = .ok (.isub, 1) := by decide +kernel
theorem d_Mo_crash_71 : decode prog_12_method_46_code 71 = .ok (.i2l, 1) := by decide +kernel
theorem d_Mo_crash_72 : decode prog_12_method_46_code 72 = .ok (.lmul, 1) := by decide +kernel
theorem d_Mo_crash_73 : decode prog_12_method_46_code 73 = .ok (.lconst 1, 1) := by decide +kernel
theorem d_Mo_crash_74 : decode prog_12_method_46_code 74 = .ok (.ladd, 1) := by decide +kernel
theorem d_Mo_crash_75 : decode prog_12_method_46_code 75 = .ok (.lrem, 1) := by decide +kernel
theorem d_Mo_crash_76 : decode prog_12_method_46_code 76 = .ok (.l2i, 1) := by decide +kernel
theorem d_Mo_crash_77 : decode prog_12_method_46_code 77 = .ok (.iadd, 1) := by decide +kernel
theorem d_Mo_crash_78 : decode prog_12_method_46_code 78 = .ok (.istore 8, 2) := by decide +kernel
theorem d_Mo_crash_80 : decode prog_12_method_46_code 80 = .ok (.aload_n 0, 1) := by decide +kernel
theorem d_Mo_crash_81 : decode prog_12_method_46_code 81 = .ok (.iload 5, 2) := by decide +kernel
theorem d_Mo_crash_83 : decode prog_12_method_46_code 83 = .ok (.aload_n 0, 1) := by decide +kernel
theorem d_Mo_crash_84 : decode prog_12_method_46_code 84 = .ok (.getfield 50, 3) := by decide +kernel
theorem d_Mo_crash_87 : decode prog_12_method_46_code 87 = .ok (.iload 5, 2) := by decide +kernel
theorem d_Mo_crash_89 : decode prog_12_method_46_code 89 = .ok (.iaload, 1) := by decide +kernel
theorem d_Mo_crash_90 : decode prog_12_method_46_code 90 = .ok (.ifCond .lt 13, 3) := by decide +kernel
theorem d_Mo_crash_93 : decode prog_12_method_46_code 93 = .ok (.aload_n 0, 1) := by decide +kernel
theorem d_Mo_crash_94 : decode prog_12_method_46_code 94 = .ok (.getfield 50, 3) := by decide +kernel
theorem d_Mo_crash_97 : decode prog_12_method_46_code 97 = .ok (.iload 5, 2) := by decide +kernel
theorem d_Mo_crash_99 : decode prog_12_method_46_code 99 = .ok (.iaload, 1) := by decide +kernel
theorem d_Mo_crash_100 : decode prog_12_method_46_code 100 = .ok (.goto 5, 3) := by decide +kernel
theorem d_Mo_crash_103 : decode prog_12_method_46_code 103 = .ok (.iload 8, 2) := by decide +kernel
theorem d_Mo_crash_105 : decode prog_12_method_46_code 105 = .ok (.invokevirtual 225, 3) := by decide +kernel
theorem d_Mo_crash_108 : decode prog_12_method_46_code 108 = .ok (.aload_n 0, 1) := by decide +kernel
theorem d_Mo_crash_109 : decode prog_12_method_46_code 109 = .ok (.getfield 50, 3) := by decide +kernel
theorem d_Mo_crash_112 : decode prog_12_method_46_code 112 = .ok (.iload 5, 2) := by decide +kernel
theorem d_Mo_crash_114 : decode prog_12_method_46_code 114 = .ok (.iconst (-1), 1) := by decide +kernel
theorem d_Mo_crash_115 : decode prog_12_method_46_code 115 = .ok (.iastore, 1) := by decide +kernel
theorem d_Mo_crash_116 : decode prog_12_method_46_code 116 = .ok (.iinc 5 1, 3) := by decide +kernel
theorem d_Mo_crash_119 : decode prog_12_method_46_code 119 = .ok (.goto (-109), 3) := by decide +kernel
theorem d_Mo_crash_122 : decode prog_12_method_46_code 122 = .ok (.aload_n 0, 1) := by decide +kernel
theorem d_Mo_crash_123 : decode prog_12_method_46_code 123 = .ok (.invokevirtual 228, 3) := by decide +kernel
theorem d_Mo_crash_126 : decode prog_12_method_46_code 126 = .ok (.aload_n 0, 1) := by decide +kernel
theorem d_Mo_crash_127 : decode prog_12_method_46_code 127 = .ok (.invokevirtual 231, 3) := by decide +kernel
theorem d_Mo_crash_130 : decode prog_12_method_46_code 130 = .ok (.aload_n 0, 1) := by decide +kernel
theorem d_Mo_crash_131 : decode prog_12_method_46_code 131 = .ok (.aload_n 0, 1) := by decide +kernel
theorem d_Mo_crash_132 : decode prog_12_method_46_code 132 = .ok (.getfield 163, 3) := by decide +kernel
theorem d_Mo_crash_135 : decode prog_12_method_46_code 135 = .ok (.putfield 169, 3) := by decide +kernel
theorem d_Mo_crash_138 : decode prog_12_method_46_code 138 = .ok (.aload_n 0, 1) := by decide +kernel
theorem d_Mo_crash_139 : decode prog_12_method_46_code 139 = .ok (.iconst 0, 1) := by decide +kernel
theorem d_Mo_crash_140 : decode prog_12_method_46_code 140 = .ok (.putfield 175, 3) := by decide +kernel
theorem d_Mo_crash_143 : decode prog_12_method_46_code 143 = .ok (.aload_n 0, 1) := by decide +kernel
theorem d_Mo_crash_144 : decode prog_12_method_46_code 144 = .ok (.invokevirtual 234, 3) := by decide +kernel
theorem d_Mo_crash_147 : decode prog_12_method_46_code 147 = .ok (.istore 5, 2) := by decide +kernel
theorem d_Mo_crash_149 : decode prog_12_method_46_code 149 = .ok (.iload 5, 2) := by decide +kernel
theorem d_Mo_crash_151 : decode prog_12_method_46_code 151 = .ok (.ifCond .lt 33, 3) := by decide +kernel
theorem d_Mo_crash_154 : decode prog_12_method_46_code 154 = .ok (.aload_n 0, 1) := by decide +kernel
theorem d_Mo_crash_155 : decode prog_12_method_46_code 155 = .ok (.iload 5, 2) := by decide +kernel
theorem d_Mo_crash_157 : decode prog_12_method_46_code 157 = .ok (.invokevirtual 237, 3) := by decide +kernel
theorem d_Mo_crash_160 : decode prog_12_method_46_code 160 = .ok (.aload_n 0, 1) := by decide +kernel
theorem d_Mo_crash_161 : decode prog_12_method_46_code 161 = .ok (.getfield 34, 3) := by decide +kernel
theorem d_Mo_crash_164 : decode prog_12_method_46_code 164 = .ok (.iload 5, 2) := by decide +kernel
theorem d_Mo_crash_166 : decode prog_12_method_46_code 166 = .ok (.iaload, 1) := by decide +kernel
theorem d_Mo_crash_167 : decode prog_12_method_46_code 167 = .ok (.iconst 1, 1) := by decide +kernel
theorem d_Mo_crash_168 : decode prog_12_method_46_code 168 = .ok (.if_icmp .le 10, 3) := by decide +kernel
theorem d_Mo_crash_171 : decode prog_12_method_46_code 171 = .ok (.aload_n 0, 1) := by decide +kernel
theorem d_Mo_crash_172 : decode prog_12_method_46_code 172 = .ok (.invokevirtual 240, 3) := by decide +kernel
theorem d_Mo_crash_175 : decode prog_12_method_46_code 175 = .ok (.goto 4, 3) := by decide +kernel
theorem d_Mo_crash_178 : decode prog_12_method_46_code 178 = .ok (.iconst (-1), 1) := by decide +kernel
theorem d_Mo_crash_179 : decode prog_12_method_46_code 179 = .ok (.istore 5, 2) := by decide +kernel
theorem d_Mo_crash_181 : decode prog_12_method_46_code 181 = .ok (.goto (-32), 3) := by decide +kernel
theorem d_Mo_crash_184 : decode prog_12_method_46_code 184 = .ok (.iconst 4, 1) := by decide +kernel
theorem d_Mo_crash_185 : decode prog_12_method_46_code 185 = .ok (.istore 6, 2) := by decide +kernel
theorem d_Mo_crash_187 : decode prog_12_method_46_code 187 = .ok (.iload 6, 2) := by decide +kernel
theorem d_Mo_crash_189 : decode prog_12_method_46_code 189 = .ok (.bipush 16, 2) := by decide +kernel
theorem d_Mo_crash_191 : decode prog_12_method_46_code 191 = .ok (.if_icmp .ge 24, 3) := by decide +kernel
theorem d_Mo_crash_194 : decode prog_12_method_46_code 194 = .ok (.aload_n 0, 1) := by decide +kernel
theorem d_Mo_crash_195 : decode prog_12_method_46_code 195 = .ok (.iload 6, 2) := by decide +kernel
theorem d_Mo_crash_197 : decode prog_12_method_46_code 197 = .ok (.invokevirtual 213, 3) := by decide +kernel
theorem d_Mo_crash_200 : decode prog_12_method_46_code 200 = .ok (.ifCond .ne 9, 3) := by decide +kernel
theorem d_Mo_crash_203 : decode prog_12_method_46_code 203 = .ok (.aload_n 0, 1) := by decide +kernel
theorem d_Mo_crash_204 : decode prog_12_method_46_code 204 = .ok (.iload 6, 2) := by decide +kernel
theorem d_Mo_crash_206 : decode prog_12_method_46_code 206 = .ok (.invokevirtual 190, 3) := by decide +kernel
theorem d_Mo_crash_209 : decode prog_12_method_46_code 209 = .ok (.iinc 6 1, 3) := by decide +kernel
theorem d_Mo_crash_212 : decode prog_12_method_46_code 212 = .ok (.goto (-25), 3) := by decide +kernel
theorem d_Mo_crash_215 : decode prog_12_method_46_code 215 = .ok (.iconst 0, 1) := by decide +kernel
theorem d_Mo_crash_216 : decode prog_12_method_46_code 216 = .ok (.istore 6, 2) := by decide +kernel
theorem d_Mo_crash_218 : decode prog_12_method_46_code 218 = .ok (.iload 6, 2) := by decide +kernel
theorem d_Mo_crash_220 : decode prog_12_method_46_code 220 = .ok (.bipush 16, 2) := by decide +kernel
theorem d_Mo_crash_222 : decode prog_12_method_46_code 222 = .ok (.if_icmp .ge 15, 3) := by decide +kernel
theorem d_Mo_crash_225 : decode prog_12_method_46_code 225 = .ok (.aload_n 0, 1) := by decide +kernel
theorem d_Mo_crash_226 : decode prog_12_method_46_code 226 = .ok (.iload 6, 2) := by decide +kernel
theorem d_Mo_crash_228 : decode prog_12_method_46_code 228 = .ok (.invokevirtual 200, 3) := by decide +kernel
theorem d_Mo_crash_231 : decode prog_12_method_46_code 231 = .ok (.iinc 6 1, 3) := by decide +kernel
theorem d_Mo_crash_234 : decode prog_12_method_46_code 234 = .ok (.goto (-16), 3) := by decide +kernel
theorem d_Mo_crash_237 : decode prog_12_method_46_code 237 = .ok (.aload_n 0, 1) := by decide +kernel
theorem d_Mo_crash_238 : decode prog_12_method_46_code 238 = .ok (.iconst 0, 1) := by decide +kernel
theorem d_Mo_crash_239 : decode prog_12_method_46_code 239 = .ok (.putfield 160, 3) := by decide +kernel
theorem d_Mo_crash_242 : decode prog_12_method_46_code 242 = .ok (.aload_n 0, 1) := by decide +kernel
theorem d_Mo_crash_243 : decode prog_12_method_46_code 243 = .ok (.getfield 169, 3) := by decide +kernel
theorem d_Mo_crash_246 : decode prog_12_method_46_code 246 = .ok (.ireturn, 1) := by decide +kernel
theorem d_Mo_state_0 : decode prog_12_method_47_code 0 = .ok (.aload_n 0, 1) := by decide +kernel
theorem d_Mo_state_1 : decode prog_12_method_47_code 1 = .ok (.iconst 0, 1) := by decide +kernel
theorem d_Mo_state_2 : decode prog_12_method_47_code 2 = .ok (.putfield 78, 3) := by decide +kernel
theorem d_Mo_state_5 : decode prog_12_method_47_code 5 = .ok (.iload_n 1, 1) := by decide +kernel
theorem d_Mo_state_6 : decode prog_12_method_47_code 6 = .ok (.iconst 0, 1) := by decide +kernel
theorem d_Mo_state_7 : decode prog_12_method_47_code 7 = .ok (.bipush 10, 2) := by decide +kernel
theorem d_Mo_state_9 : decode prog_12_method_47_code 9 = .ok (.invokestatic 125, 3) := by decide +kernel
theorem d_Mo_state_12 : decode prog_12_method_47_code 12 = .ok (.ifCond .ne 9, 3) := by decide +kernel
theorem d_Mo_state_15 : decode prog_12_method_47_code 15 = .ok (.aload_n 0, 1) := by decide +kernel
theorem d_Mo_state_16 : decode prog_12_method_47_code 16 = .ok (.iconst 1, 1) := by decide +kernel
theorem d_Mo_state_17 : decode prog_12_method_47_code 17 = .ok (.invokevirtual 129, 3) := by decide +kernel
theorem d_Mo_state_20 : decode prog_12_method_47_code 20 = .ok (.ireturn, 1) := by decide +kernel
theorem d_Mo_state_21 : decode prog_12_method_47_code 21 = .ok (.iload_n 1, 1) := by decide +kernel
theorem d_Mo_state_22 : decode prog_12_method_47_code 22 = .ok (.iconst 5, 1) := by decide +kernel
theorem d_Mo_state_23 : decode prog_12_method_47_code 23 = .ok (.if_icmp .ge 55, 3) := by decide +kernel
theorem d_Mo_state_26 : decode prog_12_method_47_code 26 = .ok (.iload_n 1, 1) := by decide +kernel
theorem d_Mo_state_27 : decode prog_12_method_47_code 27 = .ok (.ifCond .ne 10, 3) := by decide +kernel
theorem d_Mo_state_30 : decode prog_12_method_47_code 30 = .ok (.aload_n 0, 1) := by decide +kernel
theorem d_Mo_state_31 : decode prog_12_method_47_code 31 = .ok (.getfield 135, 3) := by decide +kernel
theorem d_Mo_state_34 : decode prog_12_method_47_code 34 = .ok (.goto 43, 3) := by decide +kernel
theorem d_Mo_state_37 : decode prog_12_method_47_code 37 = .ok (.iload_n 1, 1) := by decide +kernel
theorem d_Mo_state_38 : decode prog_12_method_47_code 38 = .ok (.iconst 1, 1) := by decide +kernel
theorem d_Mo_state_39 : decode prog_12_method_47_code 39 = .ok (.if_icmp .ne 10, 3) := by decide +kernel
theorem d_Mo_state_42 : decode prog_12_method_47_code 42 = .ok (.aload_n 0, 1) := by decide +kernel
theorem d_Mo_state_43 : decode prog_12_method_47_code 43 = .ok (.getfield 53, 3) := by decide +kernel
theorem d_Mo_state_46 : decode prog_12_method_47_code 46 = .ok (.goto 31, 3) := by decide +kernel
theorem d_Mo_state_49 : decode prog_12_method_47_code 49 = .ok (.iload_n 1, 1) := by decide +kernel
theorem d_Mo_state_50 : decode prog_12_method_47_code 50 = .ok (.iconst 2, 1) := by decide +kernel
theorem d_Mo_state_51 : decode prog_12_method_47_code 51 = .ok (.if_icmp .ne 10, 3) := by decide +kernel
theorem d_Mo_state_54 : decode prog_12_method_47_code 54 = .ok (.aload_n 0, 1) := by decide +kernel
theorem d_Mo_state_55 : decode prog_12_method_47_code 55 = .ok (.getfield 163, 3) := by decide +kernel
theorem d_Mo_state_58 : decode prog_12_method_47_code 58 = .ok (.goto 19, 3) := by decide +kernel
theorem d_Mo_state_61 : decode prog_12_method_47_code 61 = .ok (.iload_n 1, 1) := by decide +kernel
theorem d_Mo_state_62 : decode prog_12_method_47_code 62 = .ok (.iconst 3, 1) := by decide +kernel
theorem d_Mo_state_63 : decode prog_12_method_47_code 63 = .ok (.if_icmp .ne 10, 3) := by decide +kernel
theorem d_Mo_state_66 : decode prog_12_method_47_code 66 = .ok (.aload_n 0, 1) := by decide +kernel
theorem d_Mo_state_67 : decode prog_12_method_47_code 67 = .ok (.getfield 166, 3) := by decide +kernel
theorem d_Mo_state_70 : decode prog_12_method_47_code 70 = .ok (.goto 7, 3) := by decide +kernel
theorem d_Mo_state_73 : decode prog_12_method_47_code 73 = .ok (.aload_n 0, 1) := by decide +kernel
theorem d_Mo_state_74 : decode prog_12_method_47_code 74 = .ok (.getfield 72, 3) := by decide +kernel
theorem d_Mo_state_77 : decode prog_12_method_47_code 77 = .ok (.ireturn, 1) := by decide +kernel
theorem d_Mo_state_78 : decode prog_12_method_47_code 78 = .ok (.iload_n 1, 1) := by decide +kernel
theorem d_Mo_state_79 : decode prog_12_method_47_code 79 = .ok (.bipush 8, 2) := by decide +kernel
theorem d_Mo_state_81 : decode prog_12_method_47_code 81 = .ok (.if_icmp .ge 66, 3) := by decide +kernel
theorem d_Mo_state_84 : decode prog_12_method_47_code 84 = .ok (.iload_n 1, 1) := by decide +kernel
theorem d_Mo_state_85 : decode prog_12_method_47_code 85 = .ok (.iconst 5, 1) := by decide +kernel
theorem d_Mo_state_86 : decode prog_12_method_47_code 86 = .ok (.if_icmp .ne 35, 3) := by decide +kernel
theorem d_Mo_state_89 : decode prog_12_method_47_code 89 = .ok (.aload_n 0, 1) := by decide +kernel
theorem d_Mo_state_90 : decode prog_12_method_47_code 90 = .ok (.getfield 75, 3) := by decide +kernel
theorem d_Mo_state_93 : decode prog_12_method_47_code 93 = .ok (.ifCond .ge 7, 3) := by decide +kernel
theorem d_Mo_state_96 : decode prog_12_method_47_code 96 = .ok (.iconst 0, 1) := by decide +kernel
theorem d_Mo_state_97 : decode prog_12_method_47_code 97 = .ok (.goto 49, 3) := by decide +kernel
theorem d_Mo_state_100 : decode prog_12_method_47_code 100 = .ok (.aload_n 0, 1) := by decide +kernel
theorem d_Mo_state_101 : decode prog_12_method_47_code 101 = .ok (.getfield 25, 3) := by decide +kernel
theorem d_Mo_state_104 : decode prog_12_method_47_code 104 = .ok (.aload_n 0, 1) := by decide +kernel
theorem d_Mo_state_105 : decode prog_12_method_47_code 105 = .ok (.getfield 31, 3) := by decide +kernel
theorem d_Mo_state_108 : decode prog_12_method_47_code 108 = .ok (.sipush 330, 3) := by decide +kernel
theorem d_Mo_state_111 : decode prog_12_method_47_code 111 = .ok (.aload_n 0, 1) := by decide +kernel
theorem d_Mo_state_112 : decode prog_12_method_47_code 112 = .ok (.getfield 75, 3) := by decide +kernel
theorem d_Mo_state_115 : decode prog_12_method_47_code 115 = .ok (.imul, 1) := by decide +kernel
theorem d_Mo_state_116 : decode prog_12_method_47_code 116 = .ok (.iaload, 1) := by decide +kernel
theorem d_Mo_state_117 : decode prog_12_method_47_code 117 = .ok (.iaload, 1) := by decide +kernel
theorem d_Mo_state_118 : decode prog_12_method_47_code 118 = .ok (.goto 28, 3) := by decide +kernel
theorem d_Mo_state_121 : decode prog_12_method_47_code 121 = .ok (.iload_n 1, 1) := by decide +kernel
theorem d_Mo_state_122 : decode prog_12_method_47_code 122 = .ok (.bipush 6, 2) := by decide +kernel
theorem d_Mo_state_124 : decode prog_12_method_47_code 124 = .ok (.if_icmp .ne 10, 3) := by decide +kernel
theorem d_Mo_state_127 : decode prog_12_method_47_code 127 = .ok (.aload_n 0, 1) := by decide +kernel
theorem d_Mo_state_128 : decode prog_12_method_47_code 128 = .ok (.getfield 169, 3) := by decide +kernel
theorem d_Mo_state_131 : decode prog_12_method_47_code 131 = .ok (.goto 15, 3) := by decide +kernel
theorem d_Mo_state_134 : decode prog_12_method_47_code 134 = .ok (.aload_n 0, 1) := by decide +kernel
theorem d_Mo_state_135 : decode prog_12_method_47_code 135 = .ok (.getfield 160, 3) := by decide +kernel
theorem d_Mo_state_138 : decode prog_12_method_47_code 138 = .ok (.ifCond .eq 7, 3) := by decide +kernel
theorem d_Mo_state_141 : decode prog_12_method_47_code 141 = .ok (.iconst 1, 1) := by decide +kernel
theorem d_Mo_state_142 : decode prog_12_method_47_code 142 = .ok (.goto 4, 3) := by decide +kernel
theorem d_Mo_state_145 : decode prog_12_method_47_code 145 = .ok (.iconst 0, 1) := by decide +kernel
theorem d_Mo_state_146 : decode prog_12_method_47_code 146 = .ok (.ireturn, 1) := by decide +kernel
theorem d_Mo_state_147 : decode prog_12_method_47_code 147 = .ok (.iload_n 1, 1) := by decide +kernel
theorem d_Mo_state_148 : decode prog_12_method_47_code 148 = .ok (.bipush 8, 2) := by decide +kernel
theorem d_Mo_state_150 : decode prog_12_method_47_code 150 = .ok (.if_icmp .ne 10, 3) := by decide +kernel
theorem d_Mo_state_153 : decode prog_12_method_47_code 153 = .ok (.aload_n 0, 1) := by decide +kernel
theorem d_Mo_state_154 : decode prog_12_method_47_code 154 = .ok (.getfield 175, 3) := by decide +kernel
theorem d_Mo_state_157 : decode prog_12_method_47_code 157 = .ok (.goto 20, 3) := by decide +kernel
theorem d_Mo_state_160 : decode prog_12_method_47_code 160 = .ok (.iload_n 1, 1) := by decide +kernel
theorem d_Mo_state_161 : decode prog_12_method_47_code 161 = .ok (.bipush 9, 2) := by decide +kernel
theorem d_Mo_state_163 : decode prog_12_method_47_code 163 = .ok (.if_icmp .ne 10, 3) := by decide +kernel
theorem d_Mo_state_166 : decode prog_12_method_47_code 166 = .ok (.aload_n 0, 1) := by decide +kernel
theorem d_Mo_state_167 : decode prog_12_method_47_code 167 = .ok (.invokevirtual 111, 3) := by decide +kernel
theorem d_Mo_state_170 : decode prog_12_method_47_code 170 = .ok (.goto 7, 3) := by decide +kernel
theorem d_Mo_state_173 : decode prog_12_method_47_code 173 = .ok (.aload_n 0, 1) := by decide +kernel
theorem d_Mo_state_174 : decode prog_12_method_47_code 174 = .ok (.getfield 132, 3) := by decide +kernel
theorem d_Mo_state_177 : decode prog_12_method_47_code 177 = .ok (.ireturn, 1) := by decide +kernel
theorem d_Mo_fileOf_0 : decode prog_12_method_48_code 0 = .ok (.iconst (-1), 1) := by decide +kernel
theorem d_Mo_fileOf_1 : decode prog_12_method_48_code 1 = .ok (.istore_n 2, 1) := by decide +kernel
theorem d_Mo_fileOf_2 : decode prog_12_method_48_code 2 = .ok (.iconst 0, 1) := by decide +kernel
theorem d_Mo_fileOf_3 : decode prog_12_method_48_code 3 = .ok (.istore_n 3, 1) := by decide +kernel
theorem d_Mo_fileOf_4 : decode prog_12_method_48_code 4 = .ok (.iload_n 3, 1) := by decide +kernel
theorem d_Mo_fileOf_5 : decode prog_12_method_48_code 5 = .ok (.aload_n 0, 1) := by decide +kernel
theorem d_Mo_fileOf_6 : decode prog_12_method_48_code 6 = .ok (.getfield 175, 3) := by decide +kernel
theorem d_Mo_fileOf_9 : decode prog_12_method_48_code 9 = .ok (.if_icmp .ge 34, 3) := by decide +kernel
theorem d_Mo_fileOf_12 : decode prog_12_method_48_code 12 = .ok (.aload_n 0, 1) := by decide +kernel
theorem d_Mo_fileOf_13 : decode prog_12_method_48_code 13 = .ok (.aload_n 0, 1) := by decide +kernel
theorem d_Mo_fileOf_14 : decode prog_12_method_48_code 14 = .ok (.getfield 57, 3) := by decide +kernel
theorem d_Mo_fileOf_17 : decode prog_12_method_48_code 17 = .ok (.iload_n 3, 1) := by decide +kernel
theorem d_Mo_fileOf_18 : decode prog_12_method_48_code 18 = .ok (.iaload, 1) := by decide +kernel
theorem d_Mo_fileOf_19 : decode prog_12_method_48_code 19 = .ok (.iload_n 1, 1) := by decide +kernel
theorem d_Mo_fileOf_20 : decode prog_12_method_48_code 20 = .ok (.invokevirtual 194, 3) := by decide +kernel
theorem d_Mo_fileOf_23 : decode prog_12_method_48_code 23 = .ok (.ifCond .lt 12, 3) := by decide +kernel
theorem d_Mo_fileOf_26 : decode prog_12_method_48_code 26 = .ok (.aload_n 0, 1) := by decide +kernel
theorem d_Mo_fileOf_27 : decode prog_12_method_48_code 27 = .ok (.getfield 57, 3) := by decide +kernel
theorem d_Mo_fileOf_30 : decode prog_12_method_48_code 30 = .ok (.iload_n 3, 1) := by decide +kernel
theorem d_Mo_fileOf_31 : decode prog_12_method_48_code 31 = .ok (.iaload, 1) := by decide +kernel
theorem d_Mo_fileOf_32 : decode prog_12_method_48_code 32 = .ok (.goto 4, 3) := by decide +kernel
theorem d_Mo_fileOf_35 : decode prog_12_method_48_code 35 = .ok (.iload_n 2, 1) := by decide +kernel
theorem d_Mo_fileOf_36 : decode prog_12_method_48_code 36 = .ok (.istore_n 2, 1) := by decide +kernel
theorem d_Mo_fileOf_37 : decode prog_12_method_48_code 37 = .ok (.iinc 3 1, 3) := by decide +kernel
theorem d_Mo_fileOf_40 : decode prog_12_method_48_code 40 = .ok (.goto (-36), 3) := by decide +kernel
theorem d_Mo_fileOf_43 : decode prog_12_method_48_code 43 = .ok (.iload_n 2, 1) := by decide +kernel
theorem d_Mo_fileOf_44 : decode prog_12_method_48_code 44 = .ok (.ireturn, 1) := by decide +kernel
theorem d_Mo_entry_0 : decode prog_12_method_49_code 0 = .ok (.aload_n 0, 1) := by decide +kernel
theorem d_Mo_entry_1 : decode prog_12_method_49_code 1 = .ok (.iconst 0, 1) := by decide +kernel
theorem d_Mo_entry_2 : decode prog_12_method_49_code 2 = .ok (.putfield 78, 3) := by decide +kernel
theorem d_Mo_entry_5 : decode prog_12_method_49_code 5 = .ok (.iload_n 1, 1) := by decide +kernel
theorem d_Mo_entry_6 : decode prog_12_method_49_code 6 = .ok (.aload_n 0, 1) := by decide +kernel
theorem d_Mo_entry_7 : decode prog_12_method_49_code 7 = .ok (.getfield 163, 3) := by decide +kernel
theorem d_Mo_entry_10 : decode prog_12_method_49_code 10 = .ok (.aload_n 0, 1) := by decide +kernel
theorem d_Mo_entry_11 : decode prog_12_method_49_code 11 = .ok (.getfield 169, 3) := by decide +kernel
theorem d_Mo_entry_14 : decode prog_12_method_49_code 14 = .ok (.invokestatic 125, 3) := by decide +kernel
theorem d_Mo_entry_17 : decode prog_12_method_49_code 17 = .ok (.ifCond .eq 24, 3) := by decide +kernel
theorem d_Mo_entry_20 : decode prog_12_method_49_code 20 = .ok (.iload_n 2, 1) := by decide +kernel
theorem d_Mo_entry_21 : decode prog_12_method_49_code 21 = .ok (.iconst 0, 1) := by decide +kernel
theorem d_Mo_entry_22 : decode prog_12_method_49_code 22 = .ok (.iload_n 1, 1) := by decide +kernel
theorem d_Mo_entry_23 : decode prog_12_method_49_code 23 = .ok (.aload_n 0, 1) := by decide +kernel
theorem d_Mo_entry_24 : decode prog_12_method_49_code 24 = .ok (.getfield 163, 3) := by decide +kernel
theorem d_Mo_entry_27 : decode prog_12_method_49_code 27 = .ok (.if_icmp .ne 7, 3) := by decide +kernel
theorem d_Mo_entry_30 : decode prog_12_method_49_code 30 = .ok (.iconst 0, 1) := by decide +kernel
theorem d_Mo_entry_31 : decode prog_12_method_49_code 31 = .ok (.goto 4, 3) := by decide +kernel
theorem d_Mo_entry_34 : decode prog_12_method_49_code 34 = .ok (.iconst 4, 1) := by decide +kernel
theorem d_Mo_entry_35 : decode prog_12_method_49_code 35 = .ok (.invokestatic 125, 3) := by decide +kernel
theorem d_Mo_entry_38 : decode prog_12_method_49_code 38 = .ok (.ifCond .ne 9, 3) := by decide +kernel
theorem d_Mo_entry_41 : decode prog_12_method_49_code 41 = .ok (.aload_n 0, 1) := by decide +kernel
theorem d_Mo_entry_42 : decode prog_12_method_49_code 42 = .ok (.iconst 1, 1) := by decide +kernel
theorem d_Mo_entry_43 : decode prog_12_method_49_code 43 = .ok (.invokevirtual 129, 3) := by decide +kernel
theorem d_Mo_entry_46 : decode prog_12_method_49_code 46 = .ok (.ireturn, 1) := by decide +kernel
theorem d_Mo_entry_47 : decode prog_12_method_49_code 47 = .ok (.iload_n 2, 1) := by decide +kernel
theorem d_Mo_entry_48 : decode prog_12_method_49_code 48 = .ok (.ifCond .ne 9, 3) := by decide +kernel
theorem d_Mo_entry_51 : decode prog_12_method_49_code 51 = .ok (.aload_n 0, 1) := by decide +kernel
theorem d_Mo_entry_52 : decode prog_12_method_49_code 52 = .ok (.iload_n 1, 1) := by decide +kernel
theorem d_Mo_entry_53 : decode prog_12_method_49_code 53 = .ok (.invokevirtual 172, 3) := by decide +kernel
theorem d_Mo_entry_56 : decode prog_12_method_49_code 56 = .ok (.ireturn, 1) := by decide +kernel
theorem d_Mo_entry_57 : decode prog_12_method_49_code 57 = .ok (.aload_n 0, 1) := by decide +kernel
theorem d_Mo_entry_58 : decode prog_12_method_49_code 58 = .ok (.getfield 60, 3) := by decide +kernel
theorem d_Mo_entry_61 : decode prog_12_method_49_code 61 = .ok (.iload_n 1, 1) := by decide +kernel
theorem d_Mo_entry_62 : decode prog_12_method_49_code 62 = .ok (.aload_n 0, 1) := by decide +kernel
theorem d_Mo_entry_63 : decode prog_12_method_49_code 63 = .ok (.getfield 163, 3) := by decide +kernel
theorem d_Mo_entry_66 : decode prog_12_method_49_code 66 = .ok (.isub, 1) := by decide +kernel
theorem d_Mo_entry_67 : decode prog_12_method_49_code 67 = .ok (.iconst 1, 1) := by decide +kernel
theorem d_Mo_entry_68 : decode prog_12_method_49_code 68 = .ok (.isub, 1) := by decide +kernel
theorem d_Mo_entry_69 : decode prog_12_method_49_code 69 = .ok (.iaload, 1) := by decide +kernel
theorem d_Mo_entry_70 : decode prog_12_method_49_code 70 = .ok (.istore_n 3, 1) := by decide +kernel
theorem d_Mo_entry_71 : decode prog_12_method_49_code 71 = .ok (.iload_n 2, 1) := by decide +kernel
theorem d_Mo_entry_72 : decode prog_12_method_49_code 72 = .ok (.iconst 3, 1) := by decide +kernel
theorem d_Mo_entry_73 : decode prog_12_method_49_code 73 = .ok (.if_icmp .ge 24, 3) := by decide +kernel
theorem d_Mo_entry_76 : decode prog_12_method_49_code 76 = .ok (.iload_n 2, 1) := by decide +kernel
theorem d_Mo_entry_77 : decode prog_12_method_49_code 77 = .ok (.iconst 1, 1) := by decide +kernel
theorem d_Mo_entry_78 : decode prog_12_method_49_code 78 = .ok (.if_icmp .ne 12, 3) := by decide +kernel
theorem d_Mo_entry_81 : decode prog_12_method_49_code 81 = .ok (.aload_n 0, 1) := by decide +kernel
theorem d_Mo_entry_82 : decode prog_12_method_49_code 82 = .ok (.getfield 19, 3) := by decide +kernel
theorem d_Mo_entry_85 : decode prog_12_method_49_code 85 = .ok (.iload_n 3, 1) := by decide +kernel
theorem d_Mo_entry_86 : decode prog_12_method_49_code 86 = .ok (.iaload, 1) := by decide +kernel
theorem d_Mo_entry_87 : decode prog_12_method_49_code 87 = .ok (.goto 9, 3) := by decide +kernel
theorem d_Mo_entry_90 : decode prog_12_method_49_code 90 = .ok (.aload_n 0, 1) := by decide +kernel
theorem d_Mo_entry_91 : decode prog_12_method_49_code 91 = .ok (.getfield 25, 3) := by decide +kernel
theorem d_Mo_entry_94 : decode prog_12_method_49_code 94 = .ok (.iload_n 3, 1) := by decide +kernel
theorem d_Mo_entry_95 : decode prog_12_method_49_code 95 = .ok (.iaload, 1) := by decide +kernel
theorem d_Mo_entry_96 : decode prog_12_method_49_code 96 = .ok (.ireturn, 1) := by decide +kernel
theorem d_Mo_entry_97 : decode prog_12_method_49_code 97 = .ok (.aload_n 0, 1) := by decide +kernel
theorem d_Mo_entry_98 : decode prog_12_method_49_code 98 = .ok (.iload_n 3, 1) := by decide +kernel
theorem d_Mo_entry_99 : decode prog_12_method_49_code 99 = .ok (.invokevirtual 243, 3) := by decide +kernel
theorem d_Mo_entry_102 : decode prog_12_method_49_code 102 = .ok (.istore 4, 2) := by decide +kernel
theorem d_Mo_entry_104 : decode prog_12_method_49_code 104 = .ok (.iload_n 2, 1) := by decide +kernel
theorem d_Mo_entry_105 : decode prog_12_method_49_code 105 = .ok (.iconst 3, 1) := by decide +kernel
theorem d_Mo_entry_106 : decode prog_12_method_49_code 106 = .ok (.if_icmp .ne 8, 3) := by decide +kernel
theorem d_Mo_entry_109 : decode prog_12_method_49_code 109 = .ok (.iload 4, 2) := by decide +kernel
theorem d_Mo_entry_111 : decode prog_12_method_49_code 111 = .ok (.goto 10, 3) := by decide +kernel
theorem d_Mo_entry_114 : decode prog_12_method_49_code 114 = .ok (.aload_n 0, 1) := by decide +kernel
theorem d_Mo_entry_115 : decode prog_12_method_49_code 115 = .ok (.iload 4, 2) := by decide +kernel
theorem d_Mo_entry_117 : decode prog_12_method_49_code 117 = .ok (.iload_n 3, 1) := by decide +kernel
theorem d_Mo_entry_118 : decode prog_12_method_49_code 118 = .ok (.invokevirtual 194, 3) := by decide +kernel
theorem d_Mo_entry_121 : decode prog_12_method_49_code 121 = .ok (.ireturn, 1) := by decide +kernel
theorem d_Mo_contentAt_0 : decode prog_12_method_50_code 0 = .ok (.aload_n 0, 1) := by decide +kernel
theorem d_Mo_contentAt_1 : decode prog_12_method_50_code 1 = .ok (.iconst 0, 1) := by decide +kernel
theorem d_Mo_contentAt_2 : decode prog_12_method_50_code 2 = .ok (.putfield 78, 3) := by decide +kernel
theorem d_Mo_contentAt_5 : decode prog_12_method_50_code 5 = .ok (.iload_n 1, 1) := by decide +kernel
theorem d_Mo_contentAt_6 : decode prog_12_method_50_code 6 = .ok (.aload_n 0, 1) := by decide +kernel
theorem d_Mo_contentAt_7 : decode prog_12_method_50_code 7 = .ok (.getfield 163, 3) := by decide +kernel
theorem d_Mo_contentAt_10 : decode prog_12_method_50_code 10 = .ok (.iconst 1, 1) := by decide +kernel
theorem d_Mo_contentAt_11 : decode prog_12_method_50_code 11 = .ok (.iadd, 1) := by decide +kernel
theorem d_Mo_contentAt_12 : decode prog_12_method_50_code 12 = .ok (.aload_n 0, 1) := by decide +kernel
theorem d_Mo_contentAt_13 : decode prog_12_method_50_code 13 = .ok (.getfield 169, 3) := by decide +kernel
theorem d_Mo_contentAt_16 : decode prog_12_method_50_code 16 = .ok (.invokestatic 125, 3) := by decide +kernel
theorem d_Mo_contentAt_19 : decode prog_12_method_50_code 19 = .ok (.ifCond .ne 9, 3) := by decide +kernel
theorem d_Mo_contentAt_22 : decode prog_12_method_50_code 22 = .ok (.aload_n 0, 1) := by decide +kernel
theorem d_Mo_contentAt_23 : decode prog_12_method_50_code 23 = .ok (.iconst 1, 1) := by decide +kernel
theorem d_Mo_contentAt_24 : decode prog_12_method_50_code 24 = .ok (.invokevirtual 129, 3) := by decide +kernel
theorem d_Mo_contentAt_27 : decode prog_12_method_50_code 27 = .ok (.ireturn, 1) := by decide +kernel
theorem d_Mo_contentAt_28 : decode prog_12_method_50_code 28 = .ok (.aload_n 0, 1) := by decide +kernel
theorem d_Mo_contentAt_29 : decode prog_12_method_50_code 29 = .ok (.getfield 60, 3) := by decide +kernel
theorem d_Mo_contentAt_32 : decode prog_12_method_50_code 32 = .ok (.iload_n 1, 1) := by decide +kernel
theorem d_Mo_contentAt_33 : decode prog_12_method_50_code 33 = .ok (.aload_n 0, 1) := by decide +kernel
theorem d_Mo_contentAt_34 : decode prog_12_method_50_code 34 = .ok (.getfield 163, 3) := by decide +kernel
theorem d_Mo_contentAt_37 : decode prog_12_method_50_code 37 = .ok (.isub, 1) := by decide +kernel
theorem d_Mo_contentAt_38 : decode prog_12_method_50_code 38 = .ok (.iconst 1, 1) := by decide +kernel
theorem d_Mo_contentAt_39 : decode prog_12_method_50_code 39 = .ok (.isub, 1) := by decide +kernel
theorem d_Mo_contentAt_40 : decode prog_12_method_50_code 40 = .ok (.iaload, 1) := by decide +kernel
theorem d_Mo_contentAt_41 : decode prog_12_method_50_code 41 = .ok (.istore_n 3, 1) := by decide +kernel
theorem d_Mo_contentAt_42 : decode prog_12_method_50_code 42 = .ok (.iload_n 2, 1) := by decide +kernel
theorem d_Mo_contentAt_43 : decode prog_12_method_50_code 43 = .ok (.iconst 0, 1) := by decide +kernel
theorem d_Mo_contentAt_44 : decode prog_12_method_50_code 44 = .ok (.aload_n 0, 1) := by decide +kernel
theorem d_Mo_contentAt_45 : decode prog_12_method_50_code 45 = .ok (.getfield 25, 3) := by decide +kernel
theorem d_Mo_contentAt_48 : decode prog_12_method_50_code 48 = .ok (.iload_n 3, 1) := by decide +kernel
theorem d_Mo_contentAt_49 : decode prog_12_method_50_code 49 = .ok (.iaload, 1) := by decide +kernel
theorem d_Mo_contentAt_50 : decode prog_12_method_50_code 50 = .ok (.iconst 1, 1) := by decide +kernel
theorem d_Mo_contentAt_51 : decode prog_12_method_50_code 51 = .ok (.isub, 1) := by decide +kernel
theorem d_Mo_contentAt_52 : decode prog_12_method_50_code 52 = .ok (.invokestatic 125, 3) := by decide +kernel
theorem d_Mo_contentAt_55 : decode prog_12_method_50_code 55 = .ok (.ifCond .eq 19, 3) := by decide +kernel
theorem d_Mo_contentAt_58 : decode prog_12_method_50_code 58 = .ok (.aload_n 0, 1) := by decide +kernel
theorem d_Mo_contentAt_59 : decode prog_12_method_50_code 59 = .ok (.getfield 28, 3) := by decide +kernel
theorem d_Mo_contentAt_62 : decode prog_12_method_50_code 62 = .ok (.aload_n 0, 1) := by decide +kernel
theorem d_Mo_contentAt_63 : decode prog_12_method_50_code 63 = .ok (.getfield 22, 3) := by decide +kernel
theorem d_Mo_contentAt_66 : decode prog_12_method_50_code 66 = .ok (.iload_n 3, 1) := by decide +kernel
theorem d_Mo_contentAt_67 : decode prog_12_method_50_code 67 = .ok (.iaload, 1) := by decide +kernel
theorem d_Mo_contentAt_68 : decode prog_12_method_50_code 68 = .ok (.iload_n 2, 1) := by decide +kernel
theorem d_Mo_contentAt_69 : decode prog_12_method_50_code 69 = .ok (.iadd, 1) := by decide +kernel
theorem d_Mo_contentAt_70 : decode prog_12_method_50_code 70 = .ok (.iaload, 1) := by decide +kernel
theorem d_Mo_contentAt_71 : decode prog_12_method_50_code 71 = .ok (.goto 8, 3) := by decide +kernel
theorem d_Mo_contentAt_74 : decode prog_12_method_50_code 74 = .ok (.aload_n 0, 1) := by decide +kernel
theorem d_Mo_contentAt_75 : decode prog_12_method_50_code 75 = .ok (.iconst 2, 1) := by decide +kernel
theorem d_Mo_contentAt_76 : decode prog_12_method_50_code 76 = .ok (.invokevirtual 129, 3) := by decide +kernel
theorem d_Mo_contentAt_79 : decode prog_12_method_50_code 79 = .ok (.ireturn, 1) := by decide +kernel
theorem d_Mo_snapshotAt_0 : decode prog_12_method_51_code 0 = .ok (.aload_n 0, 1) := by decide +kernel
theorem d_Mo_snapshotAt_1 : decode prog_12_method_51_code 1 = .ok (.iconst 0, 1) := by decide +kernel
theorem d_Mo_snapshotAt_2 : decode prog_12_method_51_code 2 = .ok (.putfield 78, 3) := by decide +kernel
theorem d_Mo_snapshotAt_5 : decode prog_12_method_51_code 5 = .ok (.aload_n 0, 1) := by decide +kernel
theorem d_Mo_snapshotAt_6 : decode prog_12_method_51_code 6 = .ok (.getfield 75, 3) := by decide +kernel
theorem d_Mo_snapshotAt_9 : decode prog_12_method_51_code 9 = .ok (.ifCond .lt 31, 3) := by decide +kernel
theorem d_Mo_snapshotAt_12 : decode prog_12_method_51_code 12 = .ok (.iload_n 1, 1) := by decide +kernel
theorem d_Mo_snapshotAt_13 : decode prog_12_method_51_code 13 = .ok (.iconst 0, 1) := by decide +kernel
theorem d_Mo_snapshotAt_14 : decode prog_12_method_51_code 14 = .ok (.aload_n 0, 1) := by decide +kernel
theorem d_Mo_snapshotAt_15 : decode prog_12_method_51_code 15 = .ok (.getfield 25, 3) := by decide +kernel
theorem d_Mo_snapshotAt_18 : decode prog_12_method_51_code 18 = .ok (.aload_n 0, 1) := by decide +kernel
theorem d_Mo_snapshotAt_19 : decode prog_12_method_51_code 19 = .ok (.getfield 31, 3) := by decide +kernel
theorem d_Mo_snapshotAt_22 : decode prog_12_method_51_code 22 = .ok (.sipush 330, 3) := by decide +kernel
theorem d_Mo_snapshotAt_25 : decode prog_12_method_51_code 25 = .ok (.aload_n 0, 1) := by decide +kernel
theorem d_Mo_snapshotAt_26 : decode prog_12_method_51_code 26 = .ok (.getfield 75, 3) := by decide +kernel
theorem d_Mo_snapshotAt_29 : decode prog_12_method_51_code 29 = .ok (.imul, 1) := by decide +kernel
theorem d_Mo_snapshotAt_30 : decode prog_12_method_51_code 30 = .ok (.iaload, 1) := by decide +kernel
theorem d_Mo_snapshotAt_31 : decode prog_12_method_51_code 31 = .ok (.iaload, 1) := by decide +kernel
theorem d_Mo_snapshotAt_32 : decode prog_12_method_51_code 32 = .ok (.iconst 1, 1) := by decide +kernel
theorem d_Mo_snapshotAt_33 : decode prog_12_method_51_code 33 = .ok (.isub, 1) := by decide +kernel
theorem d_Mo_snapshotAt_34 : decode prog_12_method_51_code 34 = .ok (.invokestatic 125, 3) := by decide +kernel
theorem d_Mo_snapshotAt_37 : decode prog_12_method_51_code 37 = .ok (.ifCond .ne 9, 3) := by decide +kernel
theorem d_Mo_snapshotAt_40 : decode prog_12_method_51_code 40 = .ok (.aload_n 0, 1) := by decide +kernel
theorem d_Mo_snapshotAt_41 : decode prog_12_method_51_code 41 = .ok (.iconst 1, 1) := by decide +kernel
theorem d_Mo_snapshotAt_42 : decode prog_12_method_51_code 42 = .ok (.invokevirtual 129, 3) := by decide +kernel
theorem d_Mo_snapshotAt_45 : decode prog_12_method_51_code 45 = .ok (.ireturn, 1) := by decide +kernel
theorem d_Mo_snapshotAt_46 : decode prog_12_method_51_code 46 = .ok (.aload_n 0, 1) := by decide +kernel
theorem d_Mo_snapshotAt_47 : decode prog_12_method_51_code 47 = .ok (.getfield 28, 3) := by decide +kernel
theorem d_Mo_snapshotAt_50 : decode prog_12_method_51_code 50 = .ok (.aload_n 0, 1) := by decide +kernel
theorem d_Mo_snapshotAt_51 : decode prog_12_method_51_code 51 = .ok (.getfield 22, 3) := by decide +kernel
theorem d_Mo_snapshotAt_54 : decode prog_12_method_51_code 54 = .ok (.aload_n 0, 1) := by decide +kernel
theorem d_Mo_snapshotAt_55 : decode prog_12_method_51_code 55 = .ok (.getfield 31, 3) := by decide +kernel
theorem d_Mo_snapshotAt_58 : decode prog_12_method_51_code 58 = .ok (.sipush 330, 3) := by decide +kernel
theorem d_Mo_snapshotAt_61 : decode prog_12_method_51_code 61 = .ok (.aload_n 0, 1) := by decide +kernel
theorem d_Mo_snapshotAt_62 : decode prog_12_method_51_code 62 = .ok (.getfield 75, 3) := by decide +kernel
theorem d_Mo_snapshotAt_65 : decode prog_12_method_51_code 65 = .ok (.imul, 1) := by decide +kernel
theorem d_Mo_snapshotAt_66 : decode prog_12_method_51_code 66 = .ok (.iaload, 1) := by decide +kernel
theorem d_Mo_snapshotAt_67 : decode prog_12_method_51_code 67 = .ok (.iaload, 1) := by decide +kernel
theorem d_Mo_snapshotAt_68 : decode prog_12_method_51_code 68 = .ok (.iload_n 1, 1) := by decide +kernel
theorem d_Mo_snapshotAt_69 : decode prog_12_method_51_code 69 = .ok (.iadd, 1) := by decide +kernel
theorem d_Mo_snapshotAt_70 : decode prog_12_method_51_code 70 = .ok (.iaload, 1) := by decide +kernel
theorem d_Mo_snapshotAt_71 : decode prog_12_method_51_code 71 = .ok (.ireturn, 1) := by decide +kernel
theorem d_Mo_segment_0 : decode prog_12_method_52_code 0 = .ok (.aload_n 0, 1) := by decide +kernel
theorem d_Mo_segment_1 : decode prog_12_method_52_code 1 = .ok (.iconst 0, 1) := by decide +kernel
theorem d_Mo_segment_2 : decode prog_12_method_52_code 2 = .ok (.putfield 78, 3) := by decide +kernel
theorem d_Mo_segment_5 : decode prog_12_method_52_code 5 = .ok (.iload_n 1, 1) := by decide +kernel
theorem d_Mo_segment_6 : decode prog_12_method_52_code 6 = .ok (.iconst 0, 1) := by decide +kernel
theorem d_Mo_segment_7 : decode prog_12_method_52_code 7 = .ok (.aload_n 0, 1) := by decide +kernel
theorem d_Mo_segment_8 : decode prog_12_method_52_code 8 = .ok (.getfield 175, 3) := by decide +kernel
theorem d_Mo_segment_11 : decode prog_12_method_52_code 11 = .ok (.iconst 1, 1) := by decide +kernel
theorem d_Mo_segment_12 : decode prog_12_method_52_code 12 = .ok (.isub, 1) := by decide +kernel
theorem d_Mo_segment_13 : decode prog_12_method_52_code 13 = .ok (.invokestatic 125, 3) := by decide +kernel
theorem d_Mo_segment_16 : decode prog_12_method_52_code 16 = .ok (.ifCond .eq 12, 3) := by decide +kernel
theorem d_Mo_segment_19 : decode prog_12_method_52_code 19 = .ok (.iload_n 2, 1) := by decide +kernel
theorem d_Mo_segment_20 : decode prog_12_method_52_code 20 = .ok (.iconst 0, 1) := by decide +kernel
theorem d_Mo_segment_21 : decode prog_12_method_52_code 21 = .ok (.iconst 1, 1) := by decide +kernel
theorem d_Mo_segment_22 : decode prog_12_method_52_code 22 = .ok (.invokestatic 125, 3) := by decide +kernel
theorem d_Mo_segment_25 : decode prog_12_method_52_code 25 = .ok (.ifCond .ne 9, 3) := by decide +kernel
theorem d_Mo_segment_28 : decode prog_12_method_52_code 28 = .ok (.aload_n 0, 1) := by decide +kernel
theorem d_Mo_segment_29 : decode prog_12_method_52_code 29 = .ok (.iconst 1, 1) := by decide +kernel
theorem d_Mo_segment_30 : decode prog_12_method_52_code 30 = .ok (.invokevirtual 129, 3) := by decide +kernel
theorem d_Mo_segment_33 : decode prog_12_method_52_code 33 = .ok (.ireturn, 1) := by decide +kernel
theorem d_Mo_segment_34 : decode prog_12_method_52_code 34 = .ok (.iload_n 2, 1) := by decide +kernel
theorem d_Mo_segment_35 : decode prog_12_method_52_code 35 = .ok (.ifCond .ne 12, 3) := by decide +kernel
theorem d_Mo_segment_38 : decode prog_12_method_52_code 38 = .ok (.aload_n 0, 1) := by decide +kernel
theorem d_Mo_segment_39 : decode prog_12_method_52_code 39 = .ok (.getfield 57, 3) := by decide +kernel
theorem d_Mo_segment_42 : decode prog_12_method_52_code 42 = .ok (.iload_n 1, 1) := by decide +kernel
theorem d_Mo_segment_43 : decode prog_12_method_52_code 43 = .ok (.iaload, 1) := by decide +kernel
theorem d_Mo_segment_44 : decode prog_12_method_52_code 44 = .ok (.goto 13, 3) := by decide +kernel
theorem d_Mo_segment_47 : decode prog_12_method_52_code 47 = .ok (.aload_n 0, 1) := by decide +kernel
theorem d_Mo_segment_48 : decode prog_12_method_52_code 48 = .ok (.aload_n 0, 1) := by decide +kernel
theorem d_Mo_segment_49 : decode prog_12_method_52_code 49 = .ok (.getfield 57, 3) := by decide +kernel
theorem d_Mo_segment_52 : decode prog_12_method_52_code 52 = .ok (.iload_n 1, 1) := by decide +kernel
theorem d_Mo_segment_53 : decode prog_12_method_52_code 53 = .ok (.iaload, 1) := by decide +kernel
theorem d_Mo_segment_54 : decode prog_12_method_52_code 54 = .ok (.invokevirtual 187, 3) := by decide +kernel
theorem d_Mo_segment_57 : decode prog_12_method_52_code 57 = .ok (.ireturn, 1) := by decide +kernel
theorem d_Mo_file_0 : decode prog_12_method_53_code 0 = .ok (.aload_n 0, 1) := by decide +kernel
theorem d_Mo_file_1 : decode prog_12_method_53_code 1 = .ok (.iconst 0, 1) := by decide +kernel
theorem d_Mo_file_2 : decode prog_12_method_53_code 2 = .ok (.putfield 78, 3) := by decide +kernel
theorem d_Mo_file_5 : decode prog_12_method_53_code 5 = .ok (.iload_n 1, 1) := by decide +kernel
theorem d_Mo_file_6 : decode prog_12_method_53_code 6 = .ok (.iconst 0, 1) := by decide +kernel
theorem d_Mo_file_7 : decode prog_12_method_53_code 7 = .ok (.bipush 15, 2) := by decide +kernel
theorem d_Mo_file_9 : decode prog_12_method_53_code 9 = .ok (.invokestatic 125, 3) := by decide +kernel
theorem d_Mo_file_12 : decode prog_12_method_53_code 12 = .ok (.ifCond .eq 12, 3) := by decide +kernel
theorem d_Mo_file_15 : decode prog_12_method_53_code 15 = .ok (.iload_n 2, 1) := by decide +kernel
theorem d_Mo_file_16 : decode prog_12_method_53_code 16 = .ok (.iconst 0, 1) := by decide +kernel
theorem d_Mo_file_17 : decode prog_12_method_53_code 17 = .ok (.iconst 4, 1) := by decide +kernel
theorem d_Mo_file_18 : decode prog_12_method_53_code 18 = .ok (.invokestatic 125, 3) := by decide +kernel
theorem d_Mo_file_21 : decode prog_12_method_53_code 21 = .ok (.ifCond .ne 9, 3) := by decide +kernel
theorem d_Mo_file_24 : decode prog_12_method_53_code 24 = .ok (.aload_n 0, 1) := by decide +kernel
theorem d_Mo_file_25 : decode prog_12_method_53_code 25 = .ok (.iconst 1, 1) := by decide +kernel
theorem d_Mo_file_26 : decode prog_12_method_53_code 26 = .ok (.invokevirtual 129, 3) := by decide +kernel
theorem d_Mo_file_29 : decode prog_12_method_53_code 29 = .ok (.ireturn, 1) := by decide +kernel
theorem d_Mo_file_30 : decode prog_12_method_53_code 30 = .ok (.iload_n 2, 1) := by decide +kernel
theorem d_Mo_file_31 : decode prog_12_method_53_code 31 = .ok (.iconst 3, 1) := by decide +kernel
theorem d_Mo_file_32 : decode prog_12_method_53_code 32 = .ok (.if_icmp .ge 40, 3) := by decide +kernel
theorem d_Mo_file_35 : decode prog_12_method_53_code 35 = .ok (.iload_n 2, 1) := by decide +kernel
theorem d_Mo_file_36 : decode prog_12_method_53_code 36 = .ok (.ifCond .ne 12, 3) := by decide +kernel
theorem d_Mo_file_39 : decode prog_12_method_53_code 39 = .ok (.aload_n 0, 1) := by decide +kernel
theorem d_Mo_file_40 : decode prog_12_method_53_code 40 = .ok (.getfield 37, 3) := by decide +kernel
theorem d_Mo_file_43 : decode prog_12_method_53_code 43 = .ok (.iload_n 1, 1) := by decide +kernel
theorem d_Mo_file_44 : decode prog_12_method_53_code 44 = .ok (.iaload, 1) := by decide +kernel
theorem d_Mo_file_45 : decode prog_12_method_53_code 45 = .ok (.goto 26, 3) := by decide +kernel
theorem d_Mo_file_48 : decode prog_12_method_53_code 48 = .ok (.iload_n 2, 1) := by decide +kernel
theorem d_Mo_file_49 : decode prog_12_method_53_code 49 = .ok (.iconst 1, 1) := by decide +kernel
theorem d_Mo_file_50 : decode prog_12_method_53_code 50 = .ok (.if_icmp .ne 15, 3) := by decide +kernel
theorem d_Mo_file_53 : decode prog_12_method_53_code 53 = .ok (.aload_n 0, 1) := by decide +kernel
theorem d_Mo_file_54 : decode prog_12_method_53_code 54 = .ok (.getfield 37, 3) := by decide +kernel
theorem d_Mo_file_57 : decode prog_12_method_53_code 57 = .ok (.bipush 16, 2) := by decide +kernel
theorem d_Mo_file_59 : decode prog_12_method_53_code 59 = .ok (.iload_n 1, 1) := by decide +kernel
theorem d_Mo_file_60 : decode prog_12_method_53_code 60 = .ok (.iadd, 1) := by decide +kernel
theorem d_Mo_file_61 : decode prog_12_method_53_code 61 = .ok (.iaload, 1) := by decide +kernel
theorem d_Mo_file_62 : decode prog_12_method_53_code 62 = .ok (.goto 9, 3) := by decide +kernel
theorem d_Mo_file_65 : decode prog_12_method_53_code 65 = .ok (.aload_n 0, 1) := by decide +kernel
theorem d_Mo_file_66 : decode prog_12_method_53_code 66 = .ok (.getfield 44, 3) := by decide +kernel
theorem d_Mo_file_69 : decode prog_12_method_53_code 69 = .ok (.iload_n 1, 1) := by decide +kernel
theorem d_Mo_file_70 : decode prog_12_method_53_code 70 = .ok (.iaload, 1) := by decide +kernel
theorem d_Mo_file_71 : decode prog_12_method_53_code 71 = .ok (.ireturn, 1) := by decide +kernel
theorem d_Mo_file_72 : decode prog_12_method_53_code 72 = .ok (.aload_n 0, 1) := by decide +kernel
theorem d_Mo_file_73 : decode prog_12_method_53_code 73 = .ok (.getfield 40, 3) := by decide +kernel
theorem d_Mo_file_76 : decode prog_12_method_53_code 76 = .ok (.iload_n 2, 1) := by decide +kernel
theorem d_Mo_file_77 : decode prog_12_method_53_code 77 = .ok (.iconst 3, 1) := by decide +kernel
theorem d_Mo_file_78 : decode prog_12_method_53_code 78 = .ok (.if_icmp .ne 7, 3) := by decide +kernel
theorem d_Mo_file_81 : decode prog_12_method_53_code 81 = .ok (.iload_n 1, 1) := by decide +kernel
theorem d_Mo_file_82 : decode prog_12_method_53_code 82 = .ok (.goto 7, 3) := by decide +kernel
theorem d_Mo_file_85 : decode prog_12_method_53_code 85 = .ok (.bipush 16, 2) := by decide +kernel
theorem d_Mo_file_87 : decode prog_12_method_53_code 87 = .ok (.iload_n 1, 1) := by decide +kernel
theorem d_Mo_file_88 : decode prog_12_method_53_code 88 = .ok (.iadd, 1) := by decide +kernel
theorem d_Mo_file_89 : decode prog_12_method_53_code 89 = .ok (.baload, 1) := by decide +kernel
theorem d_Mo_file_90 : decode prog_12_method_53_code 90 = .ok (.ifCond .eq 7, 3) := by decide +kernel
theorem d_Mo_file_93 : decode prog_12_method_53_code 93 = .ok (.iconst 1, 1) := by decide +kernel
theorem d_Mo_file_94 : decode prog_12_method_53_code 94 = .ok (.goto 4, 3) := by decide +kernel
theorem d_Mo_file_97 : decode prog_12_method_53_code 97 = .ok (.iconst 0, 1) := by decide +kernel
theorem d_Mo_file_98 : decode prog_12_method_53_code 98 = .ok (.ireturn, 1) := by decide +kernel
theorem d_Mo_byteAt_0 : decode prog_12_method_54_code 0 = .ok (.aload_n 0, 1) := by decide +kernel
theorem d_Mo_byteAt_1 : decode prog_12_method_54_code 1 = .ok (.iconst 0, 1) := by decide +kernel
theorem d_Mo_byteAt_2 : decode prog_12_method_54_code 2 = .ok (.putfield 78, 3) := by decide +kernel
theorem d_Mo_byteAt_5 : decode prog_12_method_54_code 5 = .ok (.iload_n 1, 1) := by decide +kernel
theorem d_Mo_byteAt_6 : decode prog_12_method_54_code 6 = .ok (.iconst 0, 1) := by decide +kernel
theorem d_Mo_byteAt_7 : decode prog_12_method_54_code 7 = .ok (.bipush 15, 2) := by decide +kernel
theorem d_Mo_byteAt_9 : decode prog_12_method_54_code 9 = .ok (.invokestatic 125, 3) := by decide +kernel
theorem d_Mo_byteAt_12 : decode prog_12_method_54_code 12 = .ok (.ifCond .eq 19, 3) := by decide +kernel
theorem d_Mo_byteAt_15 : decode prog_12_method_54_code 15 = .ok (.iload_n 2, 1) := by decide +kernel
theorem d_Mo_byteAt_16 : decode prog_12_method_54_code 16 = .ok (.iconst 0, 1) := by decide +kernel
theorem d_Mo_byteAt_17 : decode prog_12_method_54_code 17 = .ok (.aload_n 0, 1) := by decide +kernel
theorem d_Mo_byteAt_18 : decode prog_12_method_54_code 18 = .ok (.getfield 37, 3) := by decide +kernel
theorem d_Mo_byteAt_21 : decode prog_12_method_54_code 21 = .ok (.iload_n 1, 1) := by decide +kernel
theorem d_Mo_byteAt_22 : decode prog_12_method_54_code 22 = .ok (.iaload, 1) := by decide +kernel
theorem d_Mo_byteAt_23 : decode prog_12_method_54_code 23 = .ok (.iconst 1, 1) := by decide +kernel
theorem d_Mo_byteAt_24 : decode prog_12_method_54_code 24 = .ok (.isub, 1) := by decide +kernel
theorem d_Mo_byteAt_25 : decode prog_12_method_54_code 25 = .ok (.invokestatic 125, 3) := by decide +kernel
theorem d_Mo_byteAt_28 : decode prog_12_method_54_code 28 = .ok (.ifCond .ne 9, 3) := by decide +kernel
theorem d_Mo_byteAt_31 : decode prog_12_method_54_code 31 = .ok (.aload_n 0, 1) := by decide +kernel
theorem d_Mo_byteAt_32 : decode prog_12_method_54_code 32 = .ok (.iconst 1, 1) := by decide +kernel
theorem d_Mo_byteAt_33 : decode prog_12_method_54_code 33 = .ok (.invokevirtual 129, 3) := by decide +kernel
theorem d_Mo_byteAt_36 : decode prog_12_method_54_code 36 = .ok (.ireturn, 1) := by decide +kernel
theorem d_Mo_byteAt_37 : decode prog_12_method_54_code 37 = .ok (.iload_n 2, 1) := by decide +kernel
theorem d_Mo_byteAt_38 : decode prog_12_method_54_code 38 = .ok (.istore_n 3, 1) := by decide +kernel
theorem d_Mo_byteAt_39 : decode prog_12_method_54_code 39 = .ok (.iconst 0, 1) := by decide +kernel
theorem d_Mo_byteAt_40 : decode prog_12_method_54_code 40 = .ok (.istore 4, 2) := by decide +kernel
theorem d_Mo_byteAt_42 : decode prog_12_method_54_code 42 = .ok (.iload_n 3, 1) := by decide +kernel
theorem d_Mo_byteAt_43 : decode prog_12_method_54_code 43 = .ok (.aload_n 0, 1) := by decide +kernel
theorem d_Mo_byteAt_44 : decode prog_12_method_54_code 44 = .ok (.aload_n 0, 1) := by decide +kernel
theorem d_Mo_byteAt_45 : decode prog_12_method_54_code 45 = .ok (.getfield 31, 3) := by decide +kernel
theorem d_Mo_byteAt_48 : decode prog_12_method_54_code 48 = .ok (.sipush 330, 3) := by decide +kernel
theorem d_Mo_byteAt_51 : decode prog_12_method_54_code 51 = .ok (.iload_n 1, 1) := by decide +kernel
theorem d_Mo_byteAt_52 : decode prog_12_method_54_code 52 = .ok (.imul, 1) := by decide +kernel
theorem d_Mo_byteAt_53 : decode prog_12_method_54_code 53 = .ok (.iload 4, 2) := by decide +kernel
theorem d_Mo_byteAt_55 : decode prog_12_method_54_code 55 = .ok (.iadd, 1) := by decide +kernel
theorem d_Mo_byteAt_56 : decode prog_12_method_54_code 56 = .ok (.iaload, 1) := by decide +kernel
theorem d_Mo_byteAt_57 : decode prog_12_method_54_code 57 = .ok (.invokevirtual 115, 3) := by decide +kernel
theorem d_Mo_byteAt_60 : decode prog_12_method_54_code 60 = .ok (.if_icmp .lt 29, 3) := by decide +kernel
theorem d_Mo_byteAt_63 : decode prog_12_method_54_code 63 = .ok (.iload_n 3, 1) := by decide +kernel
theorem d_Mo_byteAt_64 : decode prog_12_method_54_code 64 = .ok (.aload_n 0, 1) := by decide +kernel
theorem d_Mo_byteAt_65 : decode prog_12_method_54_code 65 = .ok (.aload_n 0, 1) := by decide +kernel
theorem d_Mo_byteAt_66 : decode prog_12_method_54_code 66 = .ok (.getfield 31, 3) := by decide +kernel
theorem d_Mo_byteAt_69 : decode prog_12_method_54_code 69 = .ok (.sipush 330, 3) := by decide +kernel
theorem d_Mo_byteAt_72 : decode prog_12_method_54_code 72 = .ok (.iload_n 1, 1) := by decide +kernel
theorem d_Mo_byteAt_73 : decode prog_12_method_54_code 73 = .ok (.imul, 1) := by decide +kernel
theorem d_Mo_byteAt_74 : decode prog_12_method_54_code 74 = .ok (.iload 4, 2) := by decide +kernel
theorem d_Mo_byteAt_76 : decode prog_12_method_54_code 76 = .ok (.iadd, 1) := by decide +kernel
theorem d_Mo_byteAt_77 : decode prog_12_method_54_code 77 = .ok (.iaload, 1) := by decide +kernel
theorem d_Mo_byteAt_78 : decode prog_12_method_54_code 78 = .ok (.invokevirtual 115, 3) := by decide +kernel
theorem d_Mo_byteAt_81 : decode prog_12_method_54_code 81 = .ok (.isub, 1) := by decide +kernel
theorem d_Mo_byteAt_82 : decode prog_12_method_54_code 82 = .ok (.istore_n 3, 1) := by decide +kernel
theorem d_Mo_byteAt_83 : decode prog_12_method_54_code 83 = .ok (.iinc 4 1, 3) := by decide +kernel
theorem d_Mo_byteAt_86 : decode prog_12_method_54_code 86 = .ok (.goto (-44), 3) := by decide +kernel
theorem d_Mo_byteAt_89 : decode prog_12_method_54_code 89 = .ok (.aload_n 0, 1) := by decide +kernel
theorem d_Mo_byteAt_90 : decode prog_12_method_54_code 90 = .ok (.aload_n 0, 1) := by decide +kernel
theorem d_Mo_byteAt_91 : decode prog_12_method_54_code 91 = .ok (.getfield 31, 3) := by decide +kernel
theorem d_Mo_byteAt_94 : decode prog_12_method_54_code 94 = .ok (.sipush 330, 3) := by decide +kernel
theorem d_Mo_byteAt_97 : decode prog_12_method_54_code 97 = .ok (.iload_n 1, 1) := by decide +kernel
theorem d_Mo_byteAt_98 : decode prog_12_method_54_code 98 = .ok (.imul, 1) := by decide +kernel
theorem d_Mo_byteAt_99 : decode prog_12_method_54_code 99 = .ok (.iload 4, 2) := by decide +kernel
theorem d_Mo_byteAt_101 : decode prog_12_method_54_code 101 = .ok (.iadd, 1) := by decide +kernel
theorem d_Mo_byteAt_102 : decode prog_12_method_54_code 102 = .ok (.iaload, 1) := by decide +kernel
theorem d_Mo_byteAt_103 : decode prog_12_method_54_code 103 = .ok (.iload_n 3, 1) := by decide +kernel
theorem d_Mo_byteAt_104 : decode prog_12_method_54_code 104 = .ok (.invokevirtual 246, 3) := by decide +kernel
theorem d_Mo_byteAt_107 : decode prog_12_method_54_code 107 = .ok (.ireturn, 1) := by decide +kernel
theorem d_Math_floorMod_0 : decode prog_17_method_50_code 0 = .ok (.iload_n 0, 1) := by decide +kernel
theorem d_Math_floorMod_1 : decode prog_17_method_50_code 1 = .ok (.iload_n 1, 1) := by decide +kernel
theorem d_Math_floorMod_2 : decode prog_17_method_50_code 2 = .ok (.irem, 1) := by decide +kernel
theorem d_Math_floorMod_3 : decode prog_17_method_50_code 3 = .ok (.istore_n 2, 1) := by decide +kernel
theorem d_Math_floorMod_4 : decode prog_17_method_50_code 4 = .ok (.iload_n 0, 1) := by decide +kernel
theorem d_Math_floorMod_5 : decode prog_17_method_50_code 5 = .ok (.iload_n 1, 1) := by decide +kernel
theorem d_Math_floorMod_6 : decode prog_17_method_50_code 6 = .ok (.ixor, 1) := by decide +kernel
theorem d_Math_floorMod_7 : decode prog_17_method_50_code 7 = .ok (.ifCond .ge 11, 3) := by decide +kernel
theorem d_Math_floorMod_10 : decode prog_17_method_50_code 10 = .ok (.iload_n 2, 1) := by decide +kernel
theorem d_Math_floorMod_11 : decode prog_17_method_50_code 11 = .ok (.ifCond .eq 7, 3) := by decide +kernel
theorem d_Math_floorMod_14 : decode prog_17_method_50_code 14 = .ok (.iload_n 2, 1) := by decide +kernel
theorem d_Math_floorMod_15 : decode prog_17_method_50_code 15 = .ok (.iload_n 1, 1) := by decide +kernel
theorem d_Math_floorMod_16 : decode prog_17_method_50_code 16 = .ok (.iadd, 1) := by decide +kernel
theorem d_Math_floorMod_17 : decode prog_17_method_50_code 17 = .ok (.ireturn, 1) := by decide +kernel
theorem d_Math_floorMod_18 : decode prog_17_method_50_code 18 = .ok (.iload_n 2, 1) := by decide +kernel
theorem d_Math_floorMod_19 : decode prog_17_method_50_code 19 = .ok (.ireturn, 1) := by decide +kernel
end
section
theorem d_Law_cell_0 : decode method_2_code 0 = .ok (.iload_n 1, 1) := by decide +kernel
theorem d_Law_cell_1 : decode method_2_code 1 = .ok (.aload_n 0, 1) := by decide +kernel
theorem d_Law_cell_2 : decode method_2_code 2 = .ok (.arraylength, 1) := by decide +kernel
theorem d_Law_cell_3 : decode method_2_code 3 = .ok (.if_icmp .ge 9, 3) := by decide +kernel
theorem d_Law_cell_6 : decode method_2_code 6 = .ok (.aload_n 0, 1) := by decide +kernel
theorem d_Law_cell_7 : decode method_2_code 7 = .ok (.iload_n 1, 1) := by decide +kernel
theorem d_Law_cell_8 : decode method_2_code 8 = .ok (.iaload, 1) := by decide +kernel
theorem d_Law_cell_9 : decode method_2_code 9 = .ok (.goto 4, 3) := by decide +kernel
theorem d_Law_cell_12 : decode method_2_code 12 = .ok (.iconst 0, 1) := by decide +kernel
theorem d_Law_cell_13 : decode method_2_code 13 = .ok (.ireturn, 1) := by decide +kernel
theorem d_Law_feed_0 : decode method_3_code 0 = .ok (.aload 4, 2) := by decide +kernel
theorem d_Law_feed_2 : decode method_3_code 2 = .ok (.iconst 0, 1) := by decide +kernel
theorem d_Law_feed_3 : decode method_3_code 3 = .ok (.aload_n 0, 1) := by decide +kernel
theorem d_Law_feed_4 : decode method_3_code 4 = .ok (.lload_n 1, 1) := by decide +kernel
theorem d_Law_feed_5 : decode method_3_code 5 = .ok (.iload_n 3, 1) := by decide +kernel
theorem d_Law_feed_6 : decode method_3_code 6 = .ok (.invokevirtual 7, 3) := by decide +kernel
theorem d_Law_feed_9 : decode method_3_code 9 = .ok (.i2l, 1) := by decide +kernel
theorem d_Law_feed_10 : decode method_3_code 10 = .ok (.lastore, 1) := by decide +kernel
theorem d_Law_feed_11 : decode method_3_code 11 = .ok (.goto 11, 3) := by decide +kernel
theorem d_Law_feed_14 : decode method_3_code 14 = .ok (.astore 5, 2) := by decide +kernel
theorem d_Law_feed_16 : decode method_3_code 16 = .ok (.iconst 1, 1) := by decide +kernel
theorem d_Law_feed_17 : decode method_3_code 17 = .ok (.ireturn, 1) := by decide +kernel
theorem d_Law_feed_18 : decode method_3_code 18 = .ok (.astore 5, 2) := by decide +kernel
theorem d_Law_feed_20 : decode method_3_code 20 = .ok (.iconst 2, 1) := by decide +kernel
theorem d_Law_feed_21 : decode method_3_code 21 = .ok (.ireturn, 1) := by decide +kernel
theorem d_Law_feed_22 : decode method_3_code 22 = .ok (.iconst 0, 1) := by decide +kernel
theorem d_Law_feed_23 : decode method_3_code 23 = .ok (.ireturn, 1) := by decide +kernel
theorem d_Law_save_0 : decode method_4_code 0 = .ok (.aload_n 3, 1) := by decide +kernel
theorem d_Law_save_1 : decode method_4_code 1 = .ok (.iconst 0, 1) := by decide +kernel
theorem d_Law_save_2 : decode method_4_code 2 = .ok (.aload_n 0, 1) := by decide +kernel
theorem d_Law_save_3 : decode method_4_code 3 = .ok (.iload_n 1, 1) := by decide +kernel
theorem d_Law_save_4 : decode method_4_code 4 = .ok (.iload_n 2, 1) := by decide +kernel
theorem d_Law_save_5 : decode method_4_code 5 = .ok (.invokevirtual 17, 3) := by decide +kernel
theorem d_Law_save_8 : decode method_4_code 8 = .ok (.i2l, 1) := by decide +kernel
theorem d_Law_save_9 : decode method_4_code 9 = .ok (.lastore, 1) := by decide +kernel
theorem d_Law_save_10 : decode method_4_code 10 = .ok (.goto 11, 3) := by decide +kernel
theorem d_Law_save_13 : decode method_4_code 13 = .ok (.astore 4, 2) := by decide +kernel
theorem d_Law_save_15 : decode method_4_code 15 = .ok (.iconst 1, 1) := by decide +kernel
theorem d_Law_save_16 : decode method_4_code 16 = .ok (.ireturn, 1) := by decide +kernel
theorem d_Law_save_17 : decode method_4_code 17 = .ok (.astore 4, 2) := by decide +kernel
theorem d_Law_save_19 : decode method_4_code 19 = .ok (.iconst 2, 1) := by decide +kernel
theorem d_Law_save_20 : decode method_4_code 20 = .ok (.ireturn, 1) := by decide +kernel
theorem d_Law_save_21 : decode method_4_code 21 = .ok (.iconst 0, 1) := by decide +kernel
theorem d_Law_save_22 : decode method_4_code 22 = .ok (.ireturn, 1) := by decide +kernel
theorem d_Law_append_0 : decode method_5_code 0 = .ok (.aload_n 3, 1) := by decide +kernel
theorem d_Law_append_1 : decode method_5_code 1 = .ok (.iconst 0, 1) := by decide +kernel
theorem d_Law_append_2 : decode method_5_code 2 = .ok (.aload_n 0, 1) := by decide +kernel
theorem d_Law_append_3 : decode method_5_code 3 = .ok (.iload_n 1, 1) := by decide +kernel
theorem d_Law_append_4 : decode method_5_code 4 = .ok (.iload_n 2, 1) := by decide +kernel
theorem d_Law_append_5 : decode method_5_code 5 = .ok (.invokevirtual 23, 3) := by decide +kernel
theorem d_Law_append_8 : decode method_5_code 8 = .ok (.i2l, 1) := by decide +kernel
theorem d_Law_append_9 : decode method_5_code 9 = .ok (.lastore, 1) := by decide +kernel
theorem d_Law_append_10 : decode method_5_code 10 = .ok (.goto 15, 3) := by decide +kernel
theorem d_Law_append_13 : decode method_5_code 13 = .ok (.astore 4, 2) := by decide +kernel
theorem d_Law_append_15 : decode method_5_code 15 = .ok (.iconst 1, 1) := by decide +kernel
theorem d_Law_append_16 : decode method_5_code 16 = .ok (.ireturn, 1) := by decide +kernel
theorem d_Law_append_17 : decode method_5_code 17 = .ok (.astore 4, 2) := by decide +kernel
theorem d_Law_append_19 : decode method_5_code 19 = .ok (.iconst 2, 1) := by decide +kernel
theorem d_Law_append_20 : decode method_5_code 20 = .ok (.ireturn, 1) := by decide +kernel
theorem d_Law_append_21 : decode method_5_code 21 = .ok (.astore 4, 2) := by decide +kernel
theorem d_Law_append_23 : decode method_5_code 23 = .ok (.iconst 3, 1) := by decide +kernel
theorem d_Law_append_24 : decode method_5_code 24 = .ok (.ireturn, 1) := by decide +kernel
theorem d_Law_append_25 : decode method_5_code 25 = .ok (.iconst 0, 1) := by decide +kernel
theorem d_Law_append_26 : decode method_5_code 26 = .ok (.ireturn, 1) := by decide +kernel
theorem d_Law_cutFrom_0 : decode method_6_code 0 = .ok (.aload_n 2, 1) := by decide +kernel
theorem d_Law_cutFrom_1 : decode method_6_code 1 = .ok (.iconst 0, 1) := by decide +kernel
theorem d_Law_cutFrom_2 : decode method_6_code 2 = .ok (.aload_n 0, 1) := by decide +kernel
theorem d_Law_cutFrom_3 : decode method_6_code 3 = .ok (.iload_n 1, 1) := by decide +kernel
theorem d_Law_cutFrom_4 : decode method_6_code 4 = .ok (.invokevirtual 26, 3) := by decide +kernel
theorem d_Law_cutFrom_7 : decode method_6_code 7 = .ok (.i2l, 1) := by decide +kernel
theorem d_Law_cutFrom_8 : decode method_6_code 8 = .ok (.lastore, 1) := by decide +kernel
theorem d_Law_cutFrom_9 : decode method_6_code 9 = .ok (.goto 6, 3) := by decide +kernel
theorem d_Law_cutFrom_12 : decode method_6_code 12 = .ok (.astore_n 3, 1) := by decide +kernel
theorem d_Law_cutFrom_13 : decode method_6_code 13 = .ok (.iconst 1, 1) := by decide +kernel
theorem d_Law_cutFrom_14 : decode method_6_code 14 = .ok (.ireturn, 1) := by decide +kernel
theorem d_Law_cutFrom_15 : decode method_6_code 15 = .ok (.iconst 0, 1) := by decide +kernel
theorem d_Law_cutFrom_16 : decode method_6_code 16 = .ok (.ireturn, 1) := by decide +kernel
theorem d_Law_compact_0 : decode method_7_code 0 = .ok (.aload_n 3, 1) := by decide +kernel
theorem d_Law_compact_1 : decode method_7_code 1 = .ok (.iconst 0, 1) := by decide +kernel
theorem d_Law_compact_2 : decode method_7_code 2 = .ok (.aload_n 0, 1) := by decide +kernel
theorem d_Law_compact_3 : decode method_7_code 3 = .ok (.iload_n 1, 1) := by decide +kernel
theorem d_Law_compact_4 : decode method_7_code 4 = .ok (.iload_n 2, 1) := by decide +kernel
theorem d_Law_compact_5 : decode method_7_code 5 = .ok (.invokevirtual 32, 3) := by decide +kernel
theorem d_Law_compact_8 : decode method_7_code 8 = .ok (.i2l, 1) := by decide +kernel
theorem d_Law_compact_9 : decode method_7_code 9 = .ok (.lastore, 1) := by decide +kernel
theorem d_Law_compact_10 : decode method_7_code 10 = .ok (.goto 11, 3) := by decide +kernel
theorem d_Law_compact_13 : decode method_7_code 13 = .ok (.astore 4, 2) := by decide +kernel
theorem d_Law_compact_15 : decode method_7_code 15 = .ok (.iconst 1, 1) := by decide +kernel
theorem d_Law_compact_16 : decode method_7_code 16 = .ok (.ireturn, 1) := by decide +kernel
theorem d_Law_compact_17 : decode method_7_code 17 = .ok (.astore 4, 2) := by decide +kernel
theorem d_Law_compact_19 : decode method_7_code 19 = .ok (.iconst 2, 1) := by decide +kernel
theorem d_Law_compact_20 : decode method_7_code 20 = .ok (.ireturn, 1) := by decide +kernel
theorem d_Law_compact_21 : decode method_7_code 21 = .ok (.iconst 0, 1) := by decide +kernel
theorem d_Law_compact_22 : decode method_7_code 22 = .ok (.ireturn, 1) := by decide +kernel
theorem d_Law_take_0 : decode method_8_code 0 = .ok (.aload 4, 2) := by decide +kernel
theorem d_Law_take_2 : decode method_8_code 2 = .ok (.iconst 0, 1) := by decide +kernel
theorem d_Law_take_3 : decode method_8_code 3 = .ok (.aload_n 0, 1) := by decide +kernel
theorem d_Law_take_4 : decode method_8_code 4 = .ok (.iload_n 1, 1) := by decide +kernel
theorem d_Law_take_5 : decode method_8_code 5 = .ok (.iload_n 2, 1) := by decide +kernel
theorem d_Law_take_6 : decode method_8_code 6 = .ok (.iload_n 3, 1) := by decide +kernel
theorem d_Law_take_7 : decode method_8_code 7 = .ok (.invokevirtual 35, 3) := by decide +kernel
theorem d_Law_take_10 : decode method_8_code 10 = .ok (.i2l, 1) := by decide +kernel
theorem d_Law_take_11 : decode method_8_code 11 = .ok (.lastore, 1) := by decide +kernel
theorem d_Law_take_12 : decode method_8_code 12 = .ok (.goto 11, 3) := by decide +kernel
theorem d_Law_take_15 : decode method_8_code 15 = .ok (.astore 5, 2) := by decide +kernel
theorem d_Law_take_17 : decode method_8_code 17 = .ok (.iconst 1, 1) := by decide +kernel
theorem d_Law_take_18 : decode method_8_code 18 = .ok (.ireturn, 1) := by decide +kernel
theorem d_Law_take_19 : decode method_8_code 19 = .ok (.astore 5, 2) := by decide +kernel
theorem d_Law_take_21 : decode method_8_code 21 = .ok (.iconst 2, 1) := by decide +kernel
theorem d_Law_take_22 : decode method_8_code 22 = .ok (.ireturn, 1) := by decide +kernel
theorem d_Law_take_23 : decode method_8_code 23 = .ok (.iconst 0, 1) := by decide +kernel
theorem d_Law_take_24 : decode method_8_code 24 = .ok (.ireturn, 1) := by decide +kernel
theorem d_Law_keep_0 : decode method_9_code 0 = .ok (.aload_n 0, 1) := by decide +kernel
theorem d_Law_keep_1 : decode method_9_code 1 = .ok (.iload_n 1, 1) := by decide +kernel
theorem d_Law_keep_2 : decode method_9_code 2 = .ok (.iload_n 2, 1) := by decide +kernel
theorem d_Law_keep_3 : decode method_9_code 3 = .ok (.invokevirtual 39, 3) := by decide +kernel
theorem d_Law_keep_6 : decode method_9_code 6 = .ok (.goto 9, 3) := by decide +kernel
theorem d_Law_keep_9 : decode method_9_code 9 = .ok (.astore_n 3, 1) := by decide +kernel
theorem d_Law_keep_10 : decode method_9_code 10 = .ok (.iconst 1, 1) := by decide +kernel
theorem d_Law_keep_11 : decode method_9_code 11 = .ok (.ireturn, 1) := by decide +kernel
theorem d_Law_keep_12 : decode method_9_code 12 = .ok (.astore_n 3, 1) := by decide +kernel
theorem d_Law_keep_13 : decode method_9_code 13 = .ok (.iconst 2, 1) := by decide +kernel
theorem d_Law_keep_14 : decode method_9_code 14 = .ok (.ireturn, 1) := by decide +kernel
theorem d_Law_keep_15 : decode method_9_code 15 = .ok (.iconst 0, 1) := by decide +kernel
theorem d_Law_keep_16 : decode method_9_code 16 = .ok (.ireturn, 1) := by decide +kernel
theorem d_Law_state_0 : decode method_10_code 0 = .ok (.aload_n 2, 1) := by decide +kernel
theorem d_Law_state_1 : decode method_10_code 1 = .ok (.iconst 0, 1) := by decide +kernel
theorem d_Law_state_2 : decode method_10_code 2 = .ok (.aload_n 0, 1) := by decide +kernel
theorem d_Law_state_3 : decode method_10_code 3 = .ok (.iload_n 1, 1) := by decide +kernel
theorem d_Law_state_4 : decode method_10_code 4 = .ok (.invokevirtual 43, 3) := by decide +kernel
theorem d_Law_state_7 : decode method_10_code 7 = .ok (.i2l, 1) := by decide +kernel
theorem d_Law_state_8 : decode method_10_code 8 = .ok (.lastore, 1) := by decide +kernel
theorem d_Law_state_9 : decode method_10_code 9 = .ok (.goto 6, 3) := by decide +kernel
theorem d_Law_state_12 : decode method_10_code 12 = .ok (.astore_n 3, 1) := by decide +kernel
theorem d_Law_state_13 : decode method_10_code 13 = .ok (.iconst 1, 1) := by decide +kernel
theorem d_Law_state_14 : decode method_10_code 14 = .ok (.ireturn, 1) := by decide +kernel
theorem d_Law_state_15 : decode method_10_code 15 = .ok (.iconst 0, 1) := by decide +kernel
theorem d_Law_state_16 : decode method_10_code 16 = .ok (.ireturn, 1) := by decide +kernel
theorem d_Law_entry_0 : decode method_11_code 0 = .ok (.aload_n 3, 1) := by decide +kernel
theorem d_Law_entry_1 : decode method_11_code 1 = .ok (.iconst 0, 1) := by decide +kernel
theorem d_Law_entry_2 : decode method_11_code 2 = .ok (.aload_n 0, 1) := by decide +kernel
theorem d_Law_entry_3 : decode method_11_code 3 = .ok (.iload_n 1, 1) := by decide +kernel
theorem d_Law_entry_4 : decode method_11_code 4 = .ok (.iload_n 2, 1) := by decide +kernel
theorem d_Law_entry_5 : decode method_11_code 5 = .ok (.invokevirtual 46, 3) := by decide +kernel
theorem d_Law_entry_8 : decode method_11_code 8 = .ok (.i2l, 1) := by decide +kernel
theorem d_Law_entry_9 : decode method_11_code 9 = .ok (.lastore, 1) := by decide +kernel
theorem d_Law_entry_10 : decode method_11_code 10 = .ok (.goto 7, 3) := by decide +kernel
theorem d_Law_entry_13 : decode method_11_code 13 = .ok (.astore 4, 2) := by decide +kernel
theorem d_Law_entry_15 : decode method_11_code 15 = .ok (.iconst 1, 1) := by decide +kernel
theorem d_Law_entry_16 : decode method_11_code 16 = .ok (.ireturn, 1) := by decide +kernel
theorem d_Law_entry_17 : decode method_11_code 17 = .ok (.iconst 0, 1) := by decide +kernel
theorem d_Law_entry_18 : decode method_11_code 18 = .ok (.ireturn, 1) := by decide +kernel
theorem d_Law_contentAt_0 : decode method_12_code 0 = .ok (.aload_n 3, 1) := by decide +kernel
theorem d_Law_contentAt_1 : decode method_12_code 1 = .ok (.iconst 0, 1) := by decide +kernel
theorem d_Law_contentAt_2 : decode method_12_code 2 = .ok (.aload_n 0, 1) := by decide +kernel
theorem d_Law_contentAt_3 : decode method_12_code 3 = .ok (.iload_n 1, 1) := by decide +kernel
theorem d_Law_contentAt_4 : decode method_12_code 4 = .ok (.iload_n 2, 1) := by decide +kernel
theorem d_Law_contentAt_5 : decode method_12_code 5 = .ok (.invokevirtual 49, 3) := by decide +kernel
theorem d_Law_contentAt_8 : decode method_12_code 8 = .ok (.i2l, 1) := by decide +kernel
theorem d_Law_contentAt_9 : decode method_12_code 9 = .ok (.lastore, 1) := by decide +kernel
theorem d_Law_contentAt_10 : decode method_12_code 10 = .ok (.goto 11, 3) := by decide +kernel
theorem d_Law_contentAt_13 : decode method_12_code 13 = .ok (.astore 4, 2) := by decide +kernel
theorem d_Law_contentAt_15 : decode method_12_code 15 = .ok (.iconst 1, 1) := by decide +kernel
theorem d_Law_contentAt_16 : decode method_12_code 16 = .ok (.ireturn, 1) := by decide +kernel
theorem d_Law_contentAt_17 : decode method_12_code 17 = .ok (.astore 4, 2) := by decide +kernel
theorem d_Law_contentAt_19 : decode method_12_code 19 = .ok (.iconst 2, 1) := by decide +kernel
theorem d_Law_contentAt_20 : decode method_12_code 20 = .ok (.ireturn, 1) := by decide +kernel
theorem d_Law_contentAt_21 : decode method_12_code 21 = .ok (.iconst 0, 1) := by decide +kernel
theorem d_Law_contentAt_22 : decode method_12_code 22 = .ok (.ireturn, 1) := by decide +kernel
theorem d_Law_snapshotAt_0 : decode method_13_code 0 = .ok (.aload_n 2, 1) := by decide +kernel
theorem d_Law_snapshotAt_1 : decode method_13_code 1 = .ok (.iconst 0, 1) := by decide +kernel
theorem d_Law_snapshotAt_2 : decode method_13_code 2 = .ok (.aload_n 0, 1) := by decide +kernel
theorem d_Law_snapshotAt_3 : decode method_13_code 3 = .ok (.iload_n 1, 1) := by decide +kernel
theorem d_Law_snapshotAt_4 : decode method_13_code 4 = .ok (.invokevirtual 54, 3) := by decide +kernel
theorem d_Law_snapshotAt_7 : decode method_13_code 7 = .ok (.i2l, 1) := by decide +kernel
theorem d_Law_snapshotAt_8 : decode method_13_code 8 = .ok (.lastore, 1) := by decide +kernel
theorem d_Law_snapshotAt_9 : decode method_13_code 9 = .ok (.goto 6, 3) := by decide +kernel
theorem d_Law_snapshotAt_12 : decode method_13_code 12 = .ok (.astore_n 3, 1) := by decide +kernel
theorem d_Law_snapshotAt_13 : decode method_13_code 13 = .ok (.iconst 1, 1) := by decide +kernel
theorem d_Law_snapshotAt_14 : decode method_13_code 14 = .ok (.ireturn, 1) := by decide +kernel
theorem d_Law_snapshotAt_15 : decode method_13_code 15 = .ok (.iconst 0, 1) := by decide +kernel
theorem d_Law_snapshotAt_16 : decode method_13_code 16 = .ok (.ireturn, 1) := by decide +kernel
theorem d_Law_segment_0 : decode method_14_code 0 = .ok (.aload_n 3, 1) := by decide +kernel
theorem d_Law_segment_1 : decode method_14_code 1 = .ok (.iconst 0, 1) := by decide +kernel
theorem d_Law_segment_2 : decode method_14_code 2 = .ok (.aload_n 0, 1) := by decide +kernel
theorem d_Law_segment_3 : decode method_14_code 3 = .ok (.iload_n 1, 1) := by decide +kernel
theorem d_Law_segment_4 : decode method_14_code 4 = .ok (.iload_n 2, 1) := by decide +kernel
theorem d_Law_segment_5 : decode method_14_code 5 = .ok (.invokevirtual 57, 3) := by decide +kernel
theorem d_Law_segment_8 : decode method_14_code 8 = .ok (.i2l, 1) := by decide +kernel
theorem d_Law_segment_9 : decode method_14_code 9 = .ok (.lastore, 1) := by decide +kernel
theorem d_Law_segment_10 : decode method_14_code 10 = .ok (.goto 7, 3) := by decide +kernel
theorem d_Law_segment_13 : decode method_14_code 13 = .ok (.astore 4, 2) := by decide +kernel
theorem d_Law_segment_15 : decode method_14_code 15 = .ok (.iconst 1, 1) := by decide +kernel
theorem d_Law_segment_16 : decode method_14_code 16 = .ok (.ireturn, 1) := by decide +kernel
theorem d_Law_segment_17 : decode method_14_code 17 = .ok (.iconst 0, 1) := by decide +kernel
theorem d_Law_segment_18 : decode method_14_code 18 = .ok (.ireturn, 1) := by decide +kernel
theorem d_Law_file_0 : decode method_15_code 0 = .ok (.aload_n 3, 1) := by decide +kernel
theorem d_Law_file_1 : decode method_15_code 1 = .ok (.iconst 0, 1) := by decide +kernel
theorem d_Law_file_2 : decode method_15_code 2 = .ok (.aload_n 0, 1) := by decide +kernel
theorem d_Law_file_3 : decode method_15_code 3 = .ok (.iload_n 1, 1) := by decide +kernel
theorem d_Law_file_4 : decode method_15_code 4 = .ok (.iload_n 2, 1) := by decide +kernel
theorem d_Law_file_5 : decode method_15_code 5 = .ok (.invokevirtual 60, 3) := by decide +kernel
theorem d_Law_file_8 : decode method_15_code 8 = .ok (.i2l, 1) := by decide +kernel
theorem d_Law_file_9 : decode method_15_code 9 = .ok (.lastore, 1) := by decide +kernel
theorem d_Law_file_10 : decode method_15_code 10 = .ok (.goto 7, 3) := by decide +kernel
theorem d_Law_file_13 : decode method_15_code 13 = .ok (.astore 4, 2) := by decide +kernel
theorem d_Law_file_15 : decode method_15_code 15 = .ok (.iconst 1, 1) := by decide +kernel
theorem d_Law_file_16 : decode method_15_code 16 = .ok (.ireturn, 1) := by decide +kernel
theorem d_Law_file_17 : decode method_15_code 17 = .ok (.iconst 0, 1) := by decide +kernel
theorem d_Law_file_18 : decode method_15_code 18 = .ok (.ireturn, 1) := by decide +kernel
theorem d_Law_byteAt_0 : decode method_16_code 0 = .ok (.aload_n 3, 1) := by decide +kernel
theorem d_Law_byteAt_1 : decode method_16_code 1 = .ok (.iconst 0, 1) := by decide +kernel
theorem d_Law_byteAt_2 : decode method_16_code 2 = .ok (.aload_n 0, 1) := by decide +kernel
theorem d_Law_byteAt_3 : decode method_16_code 3 = .ok (.iload_n 1, 1) := by decide +kernel
theorem d_Law_byteAt_4 : decode method_16_code 4 = .ok (.iload_n 2, 1) := by decide +kernel
theorem d_Law_byteAt_5 : decode method_16_code 5 = .ok (.invokevirtual 63, 3) := by decide +kernel
theorem d_Law_byteAt_8 : decode method_16_code 8 = .ok (.i2l, 1) := by decide +kernel
theorem d_Law_byteAt_9 : decode method_16_code 9 = .ok (.lastore, 1) := by decide +kernel
theorem d_Law_byteAt_10 : decode method_16_code 10 = .ok (.goto 7, 3) := by decide +kernel
theorem d_Law_byteAt_13 : decode method_16_code 13 = .ok (.astore 4, 2) := by decide +kernel
theorem d_Law_byteAt_15 : decode method_16_code 15 = .ok (.iconst 1, 1) := by decide +kernel
theorem d_Law_byteAt_16 : decode method_16_code 16 = .ok (.ireturn, 1) := by decide +kernel
theorem d_Law_byteAt_17 : decode method_16_code 17 = .ok (.iconst 0, 1) := by decide +kernel
theorem d_Law_byteAt_18 : decode method_16_code 18 = .ok (.ireturn, 1) := by decide +kernel
theorem d_Law_law_0 : decode code 0 = .ok (.new 8, 3) := by decide +kernel
theorem d_Law_law_3 : decode code 3 = .ok (.dup, 1) := by decide +kernel
theorem d_Law_law_4 : decode code 4 = .ok (.aload_n 0, 1) := by decide +kernel
theorem d_Law_law_5 : decode code 5 = .ok (.iconst 0, 1) := by decide +kernel
theorem d_Law_law_6 : decode code 6 = .ok (.invokestatic 66, 3) := by decide +kernel
theorem d_Law_law_9 : decode code 9 = .ok (.aload_n 0, 1) := by decide +kernel
theorem d_Law_law_10 : decode code 10 = .ok (.iconst 1, 1) := by decide +kernel
theorem d_Law_law_11 : decode code 11 = .ok (.invokestatic 66, 3) := by decide +kernel
theorem d_Law_law_14 : decode code 14 = .ok (.invokespecial 72, 3) := by decide +kernel
theorem d_Law_law_17 : decode code 17 = .ok (.astore_n 1, 1) := by decide +kernel
theorem d_Law_law_18 : decode code 18 = .ok (.new 74, 3) := by decide +kernel
theorem d_Law_law_21 : decode code 21 = .ok (.dup, 1) := by decide +kernel
theorem d_Law_law_22 : decode code 22 = .ok (.aload_n 0, 1) := by decide +kernel
theorem d_Law_law_23 : decode code 23 = .ok (.iconst 0, 1) := by decide +kernel
theorem d_Law_law_24 : decode code 24 = .ok (.invokestatic 66, 3) := by decide +kernel
theorem d_Law_law_27 : decode code 27 = .ok (.aload_n 0, 1) := by decide +kernel
theorem d_Law_law_28 : decode code 28 = .ok (.iconst 1, 1) := by decide +kernel
theorem d_Law_law_29 : decode code 29 = .ok (.invokestatic 66, 3) := by decide +kernel
theorem d_Law_law_32 : decode code 32 = .ok (.invokespecial 76, 3) := by decide +kernel
theorem d_Law_law_35 : decode code 35 = .ok (.astore_n 2, 1) := by decide +kernel
theorem d_Law_law_36 : decode code 36 = .ok (.iconst 1, 1) := by decide +kernel
theorem d_Law_law_37 : decode code 37 = .ok (.newarray .long, 2) := by decide +kernel
theorem d_Law_law_39 : decode code 39 = .ok (.astore_n 3, 1) := by decide +kernel
theorem d_Law_law_40 : decode code 40 = .ok (.iconst 2, 1) := by decide +kernel
theorem d_Law_law_41 : decode code 41 = .ok (.istore 4, 2) := by decide +kernel
theorem d_Law_law_43 : decode code 43 = .ok (.iload 4, 2) := by decide +kernel
theorem d_Law_law_45 : decode code 45 = .ok (.aload_n 0, 1) := by decide +kernel
theorem d_Law_law_46 : decode code 46 = .ok (.arraylength, 1) := by decide +kernel
theorem d_Law_law_47 : decode code 47 = .ok (.iconst 4, 1) := by decide +kernel
theorem d_Law_law_48 : decode code 48 = .ok (.isub, 1) := by decide +kernel
theorem d_Law_law_49 : decode code 49 = .ok (.if_icmp .gt 1103, 3) := by decide +kernel
theorem d_Law_law_52 : decode code 52 = .ok (.aload_n 0, 1) := by decide +kernel
theorem d_Law_law_53 : decode code 53 = .ok (.iload 4, 2) := by decide +kernel
theorem d_Law_law_55 : decode code 55 = .ok (.iaload, 1) := by decide +kernel
theorem d_Law_law_56 : decode code 56 = .ok (.bipush 15, 2) := by decide +kernel
theorem d_Law_law_58 : decode code 58 = .ok (.iand, 1) := by decide +kernel
theorem d_Law_law_59 : decode code 59 = .ok (.tableswitch 1087 0 15 #[77, 177, 245, 313, 369, 437, 517, 530, 578, 635, 691, 759, 827, 883, 951, 1019], 77) := by decide +kernel
theorem d_Law_law_136 : decode code 136 = .ok (.aload_n 1, 1) := by decide +kernel
theorem d_Law_law_137 : decode code 137 = .ok (.aload_n 0, 1) := by decide +kernel
theorem d_Law_law_138 : decode code 138 = .ok (.iload 4, 2) := by decide +kernel
theorem d_Law_law_140 : decode code 140 = .ok (.iconst 1, 1) := by decide +kernel
theorem d_Law_law_141 : decode code 141 = .ok (.iadd, 1) := by decide +kernel
theorem d_Law_law_142 : decode code 142 = .ok (.iaload, 1) := by decide +kernel
theorem d_Law_law_143 : decode code 143 = .ok (.i2l, 1) := by decide +kernel
theorem d_Law_law_144 : decode code 144 = .ok (.bipush 32, 2) := by decide +kernel
theorem d_Law_law_146 : decode code 146 = .ok (.lshl, 1) := by decide +kernel
theorem d_Law_law_147 : decode code 147 = .ok (.aload_n 0, 1) := by decide +kernel
theorem d_Law_law_148 : decode code 148 = .ok (.iload 4, 2) := by decide +kernel
theorem d_Law_law_150 : decode code 150 = .ok (.iconst 2, 1) := by decide +kernel
theorem d_Law_law_151 : decode code 151 = .ok (.iadd, 1) := by decide +kernel
theorem d_Law_law_152 : decode code 152 = .ok (.iaload, 1) := by decide +kernel
theorem d_Law_law_153 : decode code 153 = .ok (.i2l, 1) := by decide +kernel
theorem d_Law_law_154 : decode code 154 = .ok (.ldc2_w 77, 3) := by decide +kernel
theorem d_Law_law_157 : decode code 157 = .ok (.land, 1) := by decide +kernel
theorem d_Law_law_158 : decode code 158 = .ok (.lor, 1) := by decide +kernel
theorem d_Law_law_159 : decode code 159 = .ok (.aload_n 0, 1) := by decide +kernel
theorem d_Law_law_160 : decode code 160 = .ok (.iload 4, 2) := by decide +kernel
theorem d_Law_law_162 : decode code 162 = .ok (.iconst 3, 1) := by decide +kernel
theorem d_Law_law_163 : decode code 163 = .ok (.iadd, 1) := by decide +kernel
theorem d_Law_law_164 : decode code 164 = .ok (.iaload, 1) := by decide +kernel
theorem d_Law_law_165 : decode code 165 = .ok (.aload_n 3, 1) := by decide +kernel
theorem d_Law_law_166 : decode code 166 = .ok (.invokestatic 79, 3) := by decide +kernel
theorem d_Law_law_169 : decode code 169 = .ok (.istore 5, 2) := by decide +kernel
theorem d_Law_law_171 : decode code 171 = .ok (.aload_n 2, 1) := by decide +kernel
theorem d_Law_law_172 : decode code 172 = .ok (.aload_n 0, 1) := by decide +kernel
theorem d_Law_law_173 : decode code 173 = .ok (.iload 4, 2) := by decide +kernel
theorem d_Law_law_175 : decode code 175 = .ok (.iconst 1, 1) := by decide +kernel
theorem d_Law_law_176 : decode code 176 = .ok (.iadd, 1) := by decide +kernel
theorem d_Law_law_177 : decode code 177 = .ok (.iaload, 1) := by decide +kernel
theorem d_Law_law_178 : decode code 178 = .ok (.i2l, 1) := by decide +kernel
theorem d_Law_law_179 : decode code 179 = .ok (.bipush 32, 2) := by decide +kernel
theorem d_Law_law_181 : decode code 181 = .ok (.lshl, 1) := by decide +kernel
theorem d_Law_law_182 : decode code 182 = .ok (.aload_n 0, 1) := by decide +kernel
theorem d_Law_law_183 : decode code 183 = .ok (.iload 4, 2) := by decide +kernel
theorem d_Law_law_185 : decode code 185 = .ok (.iconst 2, 1) := by decide +kernel
theorem d_Law_law_186 : decode code 186 = .ok (.iadd, 1) := by decide +kernel
theorem d_Law_law_187 : decode code 187 = .ok (.iaload, 1) := by decide +kernel
theorem d_Law_law_188 : decode code 188 = .ok (.i2l, 1) := by decide +kernel
theorem d_Law_law_189 : decode code 189 = .ok (.ldc2_w 77, 3) := by decide +kernel
theorem d_Law_law_192 : decode code 192 = .ok (.land, 1) := by decide +kernel
theorem d_Law_law_193 : decode code 193 = .ok (.lor, 1) := by decide +kernel
theorem d_Law_law_194 : decode code 194 = .ok (.aload_n 0, 1) := by decide +kernel
theorem d_Law_law_195 : decode code 195 = .ok (.iload 4, 2) := by decide +kernel
theorem d_Law_law_197 : decode code 197 = .ok (.iconst 3, 1) := by decide +kernel
theorem d_Law_law_198 : decode code 198 = .ok (.iadd, 1) := by decide +kernel
theorem d_Law_law_199 : decode code 199 = .ok (.iaload, 1) := by decide +kernel
theorem d_Law_law_200 : decode code 200 = .ok (.invokevirtual 82, 3) := by decide +kernel
theorem d_Law_law_203 : decode code 203 = .ok (.istore 6, 2) := by decide +kernel
theorem d_Law_law_205 : decode code 205 = .ok (.aload_n 2, 1) := by decide +kernel
theorem d_Law_law_206 : decode code 206 = .ok (.invokevirtual 83, 3) := by decide +kernel
theorem d_Law_law_209 : decode code 209 = .ok (.iload 5, 2) := by decide +kernel
theorem d_Law_law_211 : decode code 211 = .ok (.if_icmp .eq 5, 3) := by decide +kernel
theorem d_Law_law_214 : decode code 214 = .ok (.iconst 0, 1) := by decide +kernel
theorem d_Law_law_215 : decode code 215 = .ok (.ireturn, 1) := by decide +kernel
theorem d_Law_law_216 : decode code 216 = .ok (.iload 5, 2) := by decide +kernel
theorem d_Law_law_218 : decode code 218 = .ok (.ifCond .ne 15, 3) := by decide +kernel
theorem d_Law_law_221 : decode code 221 = .ok (.aload_n 3, 1) := by decide +kernel
theorem d_Law_law_222 : decode code 222 = .ok (.iconst 0, 1) := by decide +kernel
theorem d_Law_law_223 : decode code 223 = .ok (.laload, 1) := by decide +kernel
theorem d_Law_law_224 : decode code 224 = .ok (.iload 6, 2) := by decide +kernel
theorem d_Law_law_226 : decode code 226 = .ok (.i2l, 1) := by decide +kernel
theorem d_Law_law_227 : decode code 227 = .ok (.lcmp, 1) := by decide +kernel
theorem d_Law_law_228 : decode code 228 = .ok (.ifCond .eq 5, 3) := by decide +kernel
theorem d_Law_law_231 : decode code 231 = .ok (.iconst 0, 1) := by decide +kernel
theorem d_Law_law_232 : decode code 232 = .ok (.ireturn, 1) := by decide +kernel
theorem d_Law_law_233 : decode code 233 = .ok (.goto 913, 3) := by decide +kernel
theorem d_Law_law_236 : decode code 236 = .ok (.aload_n 1, 1) := by decide +kernel
theorem d_Law_law_237 : decode code 237 = .ok (.aload_n 0, 1) := by decide +kernel
theorem d_Law_law_238 : decode code 238 = .ok (.iload 4, 2) := by decide +kernel
theorem d_Law_law_240 : decode code 240 = .ok (.iconst 1, 1) := by decide +kernel
theorem d_Law_law_241 : decode code 241 = .ok (.iadd, 1) := by decide +kernel
theorem d_Law_law_242 : decode code 242 = .ok (.iaload, 1) := by decide +kernel
theorem d_Law_law_243 : decode code 243 = .ok (.aload_n 0, 1) := by decide +kernel
theorem d_Law_law_244 : decode code 244 = .ok (.iload 4, 2) := by decide +kernel
theorem d_Law_law_246 : decode code 246 = .ok (.iconst 2, 1) := by decide +kernel
theorem d_Law_law_247 : decode code 247 = .ok (.iadd, 1) := by decide +kernel
theorem d_Law_law_248 : decode code 248 = .ok (.iaload, 1) := by decide +kernel
theorem d_Law_law_249 : decode code 249 = .ok (.aload_n 3, 1) := by decide +kernel
theorem d_Law_law_250 : decode code 250 = .ok (.invokestatic 87, 3) := by decide +kernel
theorem d_Law_law_253 : decode code 253 = .ok (.istore 5, 2) := by decide +kernel
theorem d_Law_law_255 : decode code 255 = .ok (.aload_n 2, 1) := by decide +kernel
theorem d_Law_law_256 : decode code 256 = .ok (.aload_n 0, 1) := by decide +kernel
theorem d_Law_law_257 : decode code 257 = .ok (.iload 4, 2) := by decide +kernel
theorem d_Law_law_259 : decode code 259 = .ok (.iconst 1, 1) := by decide +kernel
theorem d_Law_law_260 : decode code 260 = .ok (.iadd, 1) := by decide +kernel
theorem d_Law_law_261 : decode code 261 = .ok (.iaload, 1) := by decide +kernel
theorem d_Law_law_262 : decode code 262 = .ok (.aload_n 0, 1) := by decide +kernel
theorem d_Law_law_263 : decode code 263 = .ok (.iload 4, 2) := by decide +kernel
theorem d_Law_law_265 : decode code 265 = .ok (.iconst 2, 1) := by decide +kernel
theorem d_Law_law_266 : decode code 266 = .ok (.iadd, 1) := by decide +kernel
theorem d_Law_law_267 : decode code 267 = .ok (.iaload, 1) := by decide +kernel
theorem d_Law_law_268 : decode code 268 = .ok (.invokevirtual 90, 3) := by decide +kernel
theorem d_Law_law_271 : decode code 271 = .ok (.istore 6, 2) := by decide +kernel
theorem d_Law_law_273 : decode code 273 = .ok (.aload_n 2, 1) := by decide +kernel
theorem d_Law_law_274 : decode code 274 = .ok (.invokevirtual 83, 3) := by decide +kernel
theorem d_Law_law_277 : decode code 277 = .ok (.iload 5, 2) := by decide +kernel
theorem d_Law_law_279 : decode code 279 = .ok (.if_icmp .eq 5, 3) := by decide +kernel
theorem d_Law_law_282 : decode code 282 = .ok (.iconst 0, 1) := by decide +kernel
theorem d_Law_law_283 : decode code 283 = .ok (.ireturn, 1) := by decide +kernel
theorem d_Law_law_284 : decode code 284 = .ok (.iload 5, 2) := by decide +kernel
theorem d_Law_law_286 : decode code 286 = .ok (.ifCond .ne 15, 3) := by decide +kernel
theorem d_Law_law_289 : decode code 289 = .ok (.aload_n 3, 1) := by decide +kernel
theorem d_Law_law_290 : decode code 290 = .ok (.iconst 0, 1) := by decide +kernel
theorem d_Law_law_291 : decode code 291 = .ok (.laload, 1) := by decide +kernel
theorem d_Law_law_292 : decode code 292 = .ok (.iload 6, 2) := by decide +kernel
theorem d_Law_law_294 : decode code 294 = .ok (.i2l, 1) := by decide +kernel
theorem d_Law_law_295 : decode code 295 = .ok (.lcmp, 1) := by decide +kernel
theorem d_Law_law_296 : decode code 296 = .ok (.ifCond .eq 5, 3) := by decide +kernel
theorem d_Law_law_299 : decode code 299 = .ok (.iconst 0, 1) := by decide +kernel
theorem d_Law_law_300 : decode code 300 = .ok (.ireturn, 1) := by decide +kernel
theorem d_Law_law_301 : decode code 301 = .ok (.goto 845, 3) := by decide +kernel
theorem d_Law_law_304 : decode code 304 = .ok (.aload_n 1, 1) := by decide +kernel
theorem d_Law_law_305 : decode code 305 = .ok (.aload_n 0, 1) := by decide +kernel
theorem d_Law_law_306 : decode code 306 = .ok (.iload 4, 2) := by decide +kernel
theorem d_Law_law_308 : decode code 308 = .ok (.iconst 1, 1) := by decide +kernel
theorem d_Law_law_309 : decode code 309 = .ok (.iadd, 1) := by decide +kernel
theorem d_Law_law_310 : decode code 310 = .ok (.iaload, 1) := by decide +kernel
theorem d_Law_law_311 : decode code 311 = .ok (.aload_n 0, 1) := by decide +kernel
theorem d_Law_law_312 : decode code 312 = .ok (.iload 4, 2) := by decide +kernel
theorem d_Law_law_314 : decode code 314 = .ok (.iconst 2, 1) := by decide +kernel
theorem d_Law_law_315 : decode code 315 = .ok (.iadd, 1) := by decide +kernel
theorem d_Law_law_316 : decode code 316 = .ok (.iaload, 1) := by decide +kernel
theorem d_Law_law_317 : decode code 317 = .ok (.aload_n 3, 1) := by decide +kernel
theorem d_Law_law_318 : decode code 318 = .ok (.invokestatic 91, 3) := by decide +kernel
theorem d_Law_law_321 : decode code 321 = .ok (.istore 5, 2) := by decide +kernel
theorem d_Law_law_323 : decode code 323 = .ok (.aload_n 2, 1) := by decide +kernel
theorem d_Law_law_324 : decode code 324 = .ok (.aload_n 0, 1) := by decide +kernel
theorem d_Law_law_325 : decode code 325 = .ok (.iload 4, 2) := by decide +kernel
theorem d_Law_law_327 : decode code 327 = .ok (.iconst 1, 1) := by decide +kernel
theorem d_Law_law_328 : decode code 328 = .ok (.iadd, 1) := by decide +kernel
theorem d_Law_law_329 : decode code 329 = .ok (.iaload, 1) := by decide +kernel
theorem d_Law_law_330 : decode code 330 = .ok (.aload_n 0, 1) := by decide +kernel
theorem d_Law_law_331 : decode code 331 = .ok (.iload 4, 2) := by decide +kernel
theorem d_Law_law_333 : decode code 333 = .ok (.iconst 2, 1) := by decide +kernel
theorem d_Law_law_334 : decode code 334 = .ok (.iadd, 1) := by decide +kernel
theorem d_Law_law_335 : decode code 335 = .ok (.iaload, 1) := by decide +kernel
theorem d_Law_law_336 : decode code 336 = .ok (.invokevirtual 93, 3) := by decide +kernel
theorem d_Law_law_339 : decode code 339 = .ok (.istore 6, 2) := by decide +kernel
theorem d_Law_law_341 : decode code 341 = .ok (.aload_n 2, 1) := by decide +kernel
theorem d_Law_law_342 : decode code 342 = .ok (.invokevirtual 83, 3) := by decide +kernel
theorem d_Law_law_345 : decode code 345 = .ok (.iload 5, 2) := by decide +kernel
theorem d_Law_law_347 : decode code 347 = .ok (.if_icmp .eq 5, 3) := by decide +kernel
theorem d_Law_law_350 : decode code 350 = .ok (.iconst 0, 1) := by decide +kernel
theorem d_Law_law_351 : decode code 351 = .ok (.ireturn, 1) := by decide +kernel
theorem d_Law_law_352 : decode code 352 = .ok (.iload 5, 2) := by decide +kernel
theorem d_Law_law_354 : decode code 354 = .ok (.ifCond .ne 15, 3) := by decide +kernel
theorem d_Law_law_357 : decode code 357 = .ok (.aload_n 3, 1) := by decide +kernel
theorem d_Law_law_358 : decode code 358 = .ok (.iconst 0, 1) := by decide +kernel
theorem d_Law_law_359 : decode code 359 = .ok (.laload, 1) := by decide +kernel
theorem d_Law_law_360 : decode code 360 = .ok (.iload 6, 2) := by decide +kernel
theorem d_Law_law_362 : decode code 362 = .ok (.i2l, 1) := by decide +kernel
theorem d_Law_law_363 : decode code 363 = .ok (.lcmp, 1) := by decide +kernel
theorem d_Law_law_364 : decode code 364 = .ok (.ifCond .eq 5, 3) := by decide +kernel
theorem d_Law_law_367 : decode code 367 = .ok (.iconst 0, 1) := by decide +kernel
theorem d_Law_law_368 : decode code 368 = .ok (.ireturn, 1) := by decide +kernel
theorem d_Law_law_369 : decode code 369 = .ok (.goto 777, 3) := by decide +kernel
theorem d_Law_law_372 : decode code 372 = .ok (.aload_n 1, 1) := by decide +kernel
theorem d_Law_law_373 : decode code 373 = .ok (.aload_n 0, 1) := by decide +kernel
theorem d_Law_law_374 : decode code 374 = .ok (.iload 4, 2) := by decide +kernel
theorem d_Law_law_376 : decode code 376 = .ok (.iconst 1, 1) := by decide +kernel
theorem d_Law_law_377 : decode code 377 = .ok (.iadd, 1) := by decide +kernel
theorem d_Law_law_378 : decode code 378 = .ok (.iaload, 1) := by decide +kernel
theorem d_Law_law_379 : decode code 379 = .ok (.aload_n 3, 1) := by decide +kernel
theorem d_Law_law_380 : decode code 380 = .ok (.invokestatic 94, 3) := by decide +kernel
theorem d_Law_law_383 : decode code 383 = .ok (.istore 5, 2) := by decide +kernel
theorem d_Law_law_385 : decode code 385 = .ok (.aload_n 2, 1) := by decide +kernel
theorem d_Law_law_386 : decode code 386 = .ok (.aload_n 0, 1) := by decide +kernel
theorem d_Law_law_387 : decode code 387 = .ok (.iload 4, 2) := by decide +kernel
theorem d_Law_law_389 : decode code 389 = .ok (.iconst 1, 1) := by decide +kernel
theorem d_Law_law_390 : decode code 390 = .ok (.iadd, 1) := by decide +kernel
theorem d_Law_law_391 : decode code 391 = .ok (.iaload, 1) := by decide +kernel
theorem d_Law_law_392 : decode code 392 = .ok (.invokevirtual 97, 3) := by decide +kernel
theorem d_Law_law_395 : decode code 395 = .ok (.istore 6, 2) := by decide +kernel
theorem d_Law_law_397 : decode code 397 = .ok (.aload_n 2, 1) := by decide +kernel
theorem d_Law_law_398 : decode code 398 = .ok (.invokevirtual 83, 3) := by decide +kernel
theorem d_Law_law_401 : decode code 401 = .ok (.iload 5, 2) := by decide +kernel
theorem d_Law_law_403 : decode code 403 = .ok (.if_icmp .eq 5, 3) := by decide +kernel
theorem d_Law_law_406 : decode code 406 = .ok (.iconst 0, 1) := by decide +kernel
theorem d_Law_law_407 : decode code 407 = .ok (.ireturn, 1) := by decide +kernel
theorem d_Law_law_408 : decode code 408 = .ok (.iload 5, 2) := by decide +kernel
theorem d_Law_law_410 : decode code 410 = .ok (.ifCond .ne 15, 3) := by decide +kernel
theorem d_Law_law_413 : decode code 413 = .ok (.aload_n 3, 1) := by decide +kernel
theorem d_Law_law_414 : decode code 414 = .ok (.iconst 0, 1) := by decide +kernel
theorem d_Law_law_415 : decode code 415 = .ok (.laload, 1) := by decide +kernel
theorem d_Law_law_416 : decode code 416 = .ok (.iload 6, 2) := by decide +kernel
theorem d_Law_law_418 : decode code 418 = .ok (.i2l, 1) := by decide +kernel
theorem d_Law_law_419 : decode code 419 = .ok (.lcmp, 1) := by decide +kernel
theorem d_Law_law_420 : decode code 420 = .ok (.ifCond .eq 5, 3) := by decide +kernel
theorem d_Law_law_423 : decode code 423 = .ok (.iconst 0, 1) := by decide +kernel
theorem d_Law_law_424 : decode code 424 = .ok (.ireturn, 1) := by decide +kernel
theorem d_Law_law_425 : decode code 425 = .ok (.goto 721, 3) := by decide +kernel
theorem d_Law_law_428 : decode code 428 = .ok (.aload_n 1, 1) := by decide +kernel
theorem d_Law_law_429 : decode code 429 = .ok (.aload_n 0, 1) := by decide +kernel
theorem d_Law_law_430 : decode code 430 = .ok (.iload 4, 2) := by decide +kernel
theorem d_Law_law_432 : decode code 432 = .ok (.iconst 1, 1) := by decide +kernel
theorem d_Law_law_433 : decode code 433 = .ok (.iadd, 1) := by decide +kernel
theorem d_Law_law_434 : decode code 434 = .ok (.iaload, 1) := by decide +kernel
theorem d_Law_law_435 : decode code 435 = .ok (.aload_n 0, 1) := by decide +kernel
theorem d_Law_law_436 : decode code 436 = .ok (.iload 4, 2) := by decide +kernel
theorem d_Law_law_438 : decode code 438 = .ok (.iconst 2, 1) := by decide +kernel
theorem d_Law_law_439 : decode code 439 = .ok (.iadd, 1) := by decide +kernel
theorem d_Law_law_440 : decode code 440 = .ok (.iaload, 1) := by decide +kernel
theorem d_Law_law_441 : decode code 441 = .ok (.aload_n 3, 1) := by decide +kernel
theorem d_Law_law_442 : decode code 442 = .ok (.invokestatic 98, 3) := by decide +kernel
theorem d_Law_law_445 : decode code 445 = .ok (.istore 5, 2) := by decide +kernel
theorem d_Law_law_447 : decode code 447 = .ok (.aload_n 2, 1) := by decide +kernel
theorem d_Law_law_448 : decode code 448 = .ok (.aload_n 0, 1) := by decide +kernel
theorem d_Law_law_449 : decode code 449 = .ok (.iload 4, 2) := by decide +kernel
theorem d_Law_law_451 : decode code 451 = .ok (.iconst 1, 1) := by decide +kernel
theorem d_Law_law_452 : decode code 452 = .ok (.iadd, 1) := by decide +kernel
theorem d_Law_law_453 : decode code 453 = .ok (.iaload, 1) := by decide +kernel
theorem d_Law_law_454 : decode code 454 = .ok (.aload_n 0, 1) := by decide +kernel
theorem d_Law_law_455 : decode code 455 = .ok (.iload 4, 2) := by decide +kernel
theorem d_Law_law_457 : decode code 457 = .ok (.iconst 2, 1) := by decide +kernel
theorem d_Law_law_458 : decode code 458 = .ok (.iadd, 1) := by decide +kernel
theorem d_Law_law_459 : decode code 459 = .ok (.iaload, 1) := by decide +kernel
theorem d_Law_law_460 : decode code 460 = .ok (.invokevirtual 100, 3) := by decide +kernel
theorem d_Law_law_463 : decode code 463 = .ok (.istore 6, 2) := by decide +kernel
theorem d_Law_law_465 : decode code 465 = .ok (.aload_n 2, 1) := by decide +kernel
theorem d_Law_law_466 : decode code 466 = .ok (.invokevirtual 83, 3) := by decide +kernel
theorem d_Law_law_469 : decode code 469 = .ok (.iload 5, 2) := by decide +kernel
theorem d_Law_law_471 : decode code 471 = .ok (.if_icmp .eq 5, 3) := by decide +kernel
theorem d_Law_law_474 : decode code 474 = .ok (.iconst 0, 1) := by decide +kernel
theorem d_Law_law_475 : decode code 475 = .ok (.ireturn, 1) := by decide +kernel
theorem d_Law_law_476 : decode code 476 = .ok (.iload 5, 2) := by decide +kernel
theorem d_Law_law_478 : decode code 478 = .ok (.ifCond .ne 15, 3) := by decide +kernel
theorem d_Law_law_481 : decode code 481 = .ok (.aload_n 3, 1) := by decide +kernel
theorem d_Law_law_482 : decode code 482 = .ok (.iconst 0, 1) := by decide +kernel
theorem d_Law_law_483 : decode code 483 = .ok (.laload, 1) := by decide +kernel
theorem d_Law_law_484 : decode code 484 = .ok (.iload 6, 2) := by decide +kernel
theorem d_Law_law_486 : decode code 486 = .ok (.i2l, 1) := by decide +kernel
theorem d_Law_law_487 : decode code 487 = .ok (.lcmp, 1) := by decide +kernel
theorem d_Law_law_488 : decode code 488 = .ok (.ifCond .eq 5, 3) := by decide +kernel
theorem d_Law_law_491 : decode code 491 = .ok (.iconst 0, 1) := by decide +kernel
theorem d_Law_law_492 : decode code 492 = .ok (.ireturn, 1) := by decide +kernel
theorem d_Law_law_493 : decode code 493 = .ok (.goto 653, 3) := by decide +kernel
theorem d_Law_law_496 : decode code 496 = .ok (.aload_n 1, 1) := by decide +kernel
theorem d_Law_law_497 : decode code 497 = .ok (.aload_n 0, 1) := by decide +kernel
theorem d_Law_law_498 : decode code 498 = .ok (.iload 4, 2) := by decide +kernel
theorem d_Law_law_500 : decode code 500 = .ok (.iconst 1, 1) := by decide +kernel
theorem d_Law_law_501 : decode code 501 = .ok (.iadd, 1) := by decide +kernel
theorem d_Law_law_502 : decode code 502 = .ok (.iaload, 1) := by decide +kernel
theorem d_Law_law_503 : decode code 503 = .ok (.aload_n 0, 1) := by decide +kernel
theorem d_Law_law_504 : decode code 504 = .ok (.iload 4, 2) := by decide +kernel
theorem d_Law_law_506 : decode code 506 = .ok (.iconst 2, 1) := by decide +kernel
theorem d_Law_law_507 : decode code 507 = .ok (.iadd, 1) := by decide +kernel
theorem d_Law_law_508 : decode code 508 = .ok (.iaload, 1) := by decide +kernel
theorem d_Law_law_509 : decode code 509 = .ok (.aload_n 0, 1) := by decide +kernel
theorem d_Law_law_510 : decode code 510 = .ok (.iload 4, 2) := by decide +kernel
theorem d_Law_law_512 : decode code 512 = .ok (.iconst 3, 1) := by decide +kernel
theorem d_Law_law_513 : decode code 513 = .ok (.iadd, 1) := by decide +kernel
theorem d_Law_law_514 : decode code 514 = .ok (.iaload, 1) := by decide +kernel
theorem d_Law_law_515 : decode code 515 = .ok (.aload_n 3, 1) := by decide +kernel
theorem d_Law_law_516 : decode code 516 = .ok (.invokestatic 101, 3) := by decide +kernel
theorem d_Law_law_519 : decode code 519 = .ok (.istore 5, 2) := by decide +kernel
theorem d_Law_law_521 : decode code 521 = .ok (.aload_n 2, 1) := by decide +kernel
theorem d_Law_law_522 : decode code 522 = .ok (.aload_n 0, 1) := by decide +kernel
theorem d_Law_law_523 : decode code 523 = .ok (.iload 4, 2) := by decide +kernel
theorem d_Law_law_525 : decode code 525 = .ok (.iconst 1, 1) := by decide +kernel
theorem d_Law_law_526 : decode code 526 = .ok (.iadd, 1) := by decide +kernel
theorem d_Law_law_527 : decode code 527 = .ok (.iaload, 1) := by decide +kernel
theorem d_Law_law_528 : decode code 528 = .ok (.aload_n 0, 1) := by decide +kernel
theorem d_Law_law_529 : decode code 529 = .ok (.iload 4, 2) := by decide +kernel
theorem d_Law_law_531 : decode code 531 = .ok (.iconst 2, 1) := by decide +kernel
theorem d_Law_law_532 : decode code 532 = .ok (.iadd, 1) := by decide +kernel
theorem d_Law_law_533 : decode code 533 = .ok (.iaload, 1) := by decide +kernel
theorem d_Law_law_534 : decode code 534 = .ok (.aload_n 0, 1) := by decide +kernel
theorem d_Law_law_535 : decode code 535 = .ok (.iload 4, 2) := by decide +kernel
theorem d_Law_law_537 : decode code 537 = .ok (.iconst 3, 1) := by decide +kernel
theorem d_Law_law_538 : decode code 538 = .ok (.iadd, 1) := by decide +kernel
theorem d_Law_law_539 : decode code 539 = .ok (.iaload, 1) := by decide +kernel
theorem d_Law_law_540 : decode code 540 = .ok (.invokevirtual 104, 3) := by decide +kernel
theorem d_Law_law_543 : decode code 543 = .ok (.istore 6, 2) := by decide +kernel
theorem d_Law_law_545 : decode code 545 = .ok (.aload_n 2, 1) := by decide +kernel
theorem d_Law_law_546 : decode code 546 = .ok (.invokevirtual 83, 3) := by decide +kernel
theorem d_Law_law_549 : decode code 549 = .ok (.iload 5, 2) := by decide +kernel
theorem d_Law_law_551 : decode code 551 = .ok (.if_icmp .eq 5, 3) := by decide +kernel
theorem d_Law_law_554 : decode code 554 = .ok (.iconst 0, 1) := by decide +kernel
theorem d_Law_law_555 : decode code 555 = .ok (.ireturn, 1) := by decide +kernel
theorem d_Law_law_556 : decode code 556 = .ok (.iload 5, 2) := by decide +kernel
theorem d_Law_law_558 : decode code 558 = .ok (.ifCond .ne 15, 3) := by decide +kernel
theorem d_Law_law_561 : decode code 561 = .ok (.aload_n 3, 1) := by decide +kernel
theorem d_Law_law_562 : decode code 562 = .ok (.iconst 0, 1) := by decide +kernel
theorem d_Law_law_563 : decode code 563 = .ok (.laload, 1) := by decide +kernel
theorem d_Law_law_564 : decode code 564 = .ok (.iload 6, 2) := by decide +kernel
theorem d_Law_law_566 : decode code 566 = .ok (.i2l, 1) := by decide +kernel
theorem d_Law_law_567 : decode code 567 = .ok (.lcmp, 1) := by decide +kernel
theorem d_Law_law_568 : decode code 568 = .ok (.ifCond .eq 5, 3) := by decide +kernel
theorem d_Law_law_571 : decode code 571 = .ok (.iconst 0, 1) := by decide +kernel
theorem d_Law_law_572 : decode code 572 = .ok (.ireturn, 1) := by decide +kernel
theorem d_Law_law_573 : decode code 573 = .ok (.goto 573, 3) := by decide +kernel
theorem d_Law_law_576 : decode code 576 = .ok (.aload_n 1, 1) := by decide +kernel
theorem d_Law_law_577 : decode code 577 = .ok (.invokevirtual 105, 3) := by decide +kernel
theorem d_Law_law_580 : decode code 580 = .ok (.aload_n 2, 1) := by decide +kernel
theorem d_Law_law_581 : decode code 581 = .ok (.invokevirtual 109, 3) := by decide +kernel
theorem d_Law_law_584 : decode code 584 = .ok (.if_icmp .eq 562, 3) := by decide +kernel
theorem d_Law_law_587 : decode code 587 = .ok (.iconst 0, 1) := by decide +kernel
theorem d_Law_law_588 : decode code 588 = .ok (.ireturn, 1) := by decide +kernel
theorem d_Law_law_589 : decode code 589 = .ok (.aload_n 1, 1) := by decide +kernel
theorem d_Law_law_590 : decode code 590 = .ok (.aload_n 0, 1) := by decide +kernel
theorem d_Law_law_591 : decode code 591 = .ok (.iload 4, 2) := by decide +kernel
theorem d_Law_law_593 : decode code 593 = .ok (.iconst 1, 1) := by decide +kernel
theorem d_Law_law_594 : decode code 594 = .ok (.iadd, 1) := by decide +kernel
theorem d_Law_law_595 : decode code 595 = .ok (.iaload, 1) := by decide +kernel
theorem d_Law_law_596 : decode code 596 = .ok (.aload_n 0, 1) := by decide +kernel
theorem d_Law_law_597 : decode code 597 = .ok (.iload 4, 2) := by decide +kernel
theorem d_Law_law_599 : decode code 599 = .ok (.iconst 2, 1) := by decide +kernel
theorem d_Law_law_600 : decode code 600 = .ok (.iadd, 1) := by decide +kernel
theorem d_Law_law_601 : decode code 601 = .ok (.iaload, 1) := by decide +kernel
theorem d_Law_law_602 : decode code 602 = .ok (.invokestatic 110, 3) := by decide +kernel
theorem d_Law_law_605 : decode code 605 = .ok (.istore 5, 2) := by decide +kernel
theorem d_Law_law_607 : decode code 607 = .ok (.aload_n 2, 1) := by decide +kernel
theorem d_Law_law_608 : decode code 608 = .ok (.aload_n 0, 1) := by decide +kernel
theorem d_Law_law_609 : decode code 609 = .ok (.iload 4, 2) := by decide +kernel
theorem d_Law_law_611 : decode code 611 = .ok (.iconst 1, 1) := by decide +kernel
theorem d_Law_law_612 : decode code 612 = .ok (.iadd, 1) := by decide +kernel
theorem d_Law_law_613 : decode code 613 = .ok (.iaload, 1) := by decide +kernel
theorem d_Law_law_614 : decode code 614 = .ok (.aload_n 0, 1) := by decide +kernel
theorem d_Law_law_615 : decode code 615 = .ok (.iload 4, 2) := by decide +kernel
theorem d_Law_law_617 : decode code 617 = .ok (.iconst 2, 1) := by decide +kernel
theorem d_Law_law_618 : decode code 618 = .ok (.iadd, 1) := by decide +kernel
theorem d_Law_law_619 : decode code 619 = .ok (.iaload, 1) := by decide +kernel
theorem d_Law_law_620 : decode code 620 = .ok (.invokevirtual 113, 3) := by decide +kernel
theorem d_Law_law_623 : decode code 623 = .ok (.aload_n 2, 1) := by decide +kernel
theorem d_Law_law_624 : decode code 624 = .ok (.invokevirtual 83, 3) := by decide +kernel
theorem d_Law_law_627 : decode code 627 = .ok (.iload 5, 2) := by decide +kernel
theorem d_Law_law_629 : decode code 629 = .ok (.if_icmp .eq 5, 3) := by decide +kernel
theorem d_Law_law_632 : decode code 632 = .ok (.iconst 0, 1) := by decide +kernel
theorem d_Law_law_633 : decode code 633 = .ok (.ireturn, 1) := by decide +kernel
theorem d_Law_law_634 : decode code 634 = .ok (.goto 512, 3) := by decide +kernel
theorem d_Law_law_637 : decode code 637 = .ok (.aload_n 1, 1) := by decide +kernel
theorem d_Law_law_638 : decode code 638 = .ok (.aload_n 0, 1) := by decide +kernel
theorem d_Law_law_639 : decode code 639 = .ok (.iload 4, 2) := by decide +kernel
theorem d_Law_law_641 : decode code 641 = .ok (.iconst 1, 1) := by decide +kernel
theorem d_Law_law_642 : decode code 642 = .ok (.iadd, 1) := by decide +kernel
theorem d_Law_law_643 : decode code 643 = .ok (.iaload, 1) := by decide +kernel
theorem d_Law_law_644 : decode code 644 = .ok (.i2l, 1) := by decide +kernel
theorem d_Law_law_645 : decode code 645 = .ok (.bipush 32, 2) := by decide +kernel
theorem d_Law_law_647 : decode code 647 = .ok (.lshl, 1) := by decide +kernel
theorem d_Law_law_648 : decode code 648 = .ok (.aload_n 0, 1) := by decide +kernel
theorem d_Law_law_649 : decode code 649 = .ok (.iload 4, 2) := by decide +kernel
theorem d_Law_law_651 : decode code 651 = .ok (.iconst 2, 1) := by decide +kernel
theorem d_Law_law_652 : decode code 652 = .ok (.iadd, 1) := by decide +kernel
theorem d_Law_law_653 : decode code 653 = .ok (.iaload, 1) := by decide +kernel
theorem d_Law_law_654 : decode code 654 = .ok (.i2l, 1) := by decide +kernel
theorem d_Law_law_655 : decode code 655 = .ok (.ldc2_w 77, 3) := by decide +kernel
theorem d_Law_law_658 : decode code 658 = .ok (.land, 1) := by decide +kernel
theorem d_Law_law_659 : decode code 659 = .ok (.lor, 1) := by decide +kernel
theorem d_Law_law_660 : decode code 660 = .ok (.invokevirtual 114, 3) := by decide +kernel
theorem d_Law_law_663 : decode code 663 = .ok (.aload_n 2, 1) := by decide +kernel
theorem d_Law_law_664 : decode code 664 = .ok (.aload_n 0, 1) := by decide +kernel
theorem d_Law_law_665 : decode code 665 = .ok (.iload 4, 2) := by decide +kernel
theorem d_Law_law_667 : decode code 667 = .ok (.iconst 1, 1) := by decide +kernel
theorem d_Law_law_668 : decode code 668 = .ok (.iadd, 1) := by decide +kernel
theorem d_Law_law_669 : decode code 669 = .ok (.iaload, 1) := by decide +kernel
theorem d_Law_law_670 : decode code 670 = .ok (.i2l, 1) := by decide +kernel
theorem d_Law_law_671 : decode code 671 = .ok (.bipush 32, 2) := by decide +kernel
theorem d_Law_law_673 : decode code 673 = .ok (.lshl, 1) := by decide +kernel
theorem d_Law_law_674 : decode code 674 = .ok (.aload_n 0, 1) := by decide +kernel
theorem d_Law_law_675 : decode code 675 = .ok (.iload 4, 2) := by decide +kernel
theorem d_Law_law_677 : decode code 677 = .ok (.iconst 2, 1) := by decide +kernel
theorem d_Law_law_678 : decode code 678 = .ok (.iadd, 1) := by decide +kernel
theorem d_Law_law_679 : decode code 679 = .ok (.iaload, 1) := by decide +kernel
theorem d_Law_law_680 : decode code 680 = .ok (.i2l, 1) := by decide +kernel
theorem d_Law_law_681 : decode code 681 = .ok (.ldc2_w 77, 3) := by decide +kernel
theorem d_Law_law_684 : decode code 684 = .ok (.land, 1) := by decide +kernel
theorem d_Law_law_685 : decode code 685 = .ok (.lor, 1) := by decide +kernel
theorem d_Law_law_686 : decode code 686 = .ok (.invokevirtual 118, 3) := by decide +kernel
theorem d_Law_law_689 : decode code 689 = .ok (.if_icmp .eq 457, 3) := by decide +kernel
theorem d_Law_law_692 : decode code 692 = .ok (.iconst 0, 1) := by decide +kernel
theorem d_Law_law_693 : decode code 693 = .ok (.ireturn, 1) := by decide +kernel
theorem d_Law_law_694 : decode code 694 = .ok (.aload_n 1, 1) := by decide +kernel
theorem d_Law_law_695 : decode code 695 = .ok (.aload_n 0, 1) := by decide +kernel
theorem d_Law_law_696 : decode code 696 = .ok (.iload 4, 2) := by decide +kernel
theorem d_Law_law_698 : decode code 698 = .ok (.iconst 1, 1) := by decide +kernel
theorem d_Law_law_699 : decode code 699 = .ok (.iadd, 1) := by decide +kernel
theorem d_Law_law_700 : decode code 700 = .ok (.iaload, 1) := by decide +kernel
theorem d_Law_law_701 : decode code 701 = .ok (.aload_n 3, 1) := by decide +kernel
theorem d_Law_law_702 : decode code 702 = .ok (.invokestatic 119, 3) := by decide +kernel
theorem d_Law_law_705 : decode code 705 = .ok (.istore 5, 2) := by decide +kernel
theorem d_Law_law_707 : decode code 707 = .ok (.aload_n 2, 1) := by decide +kernel
theorem d_Law_law_708 : decode code 708 = .ok (.aload_n 0, 1) := by decide +kernel
theorem d_Law_law_709 : decode code 709 = .ok (.iload 4, 2) := by decide +kernel
theorem d_Law_law_711 : decode code 711 = .ok (.iconst 1, 1) := by decide +kernel
theorem d_Law_law_712 : decode code 712 = .ok (.iadd, 1) := by decide +kernel
theorem d_Law_law_713 : decode code 713 = .ok (.iaload, 1) := by decide +kernel
theorem d_Law_law_714 : decode code 714 = .ok (.invokevirtual 121, 3) := by decide +kernel
theorem d_Law_law_717 : decode code 717 = .ok (.istore 6, 2) := by decide +kernel
theorem d_Law_law_719 : decode code 719 = .ok (.aload_n 2, 1) := by decide +kernel
theorem d_Law_law_720 : decode code 720 = .ok (.invokevirtual 83, 3) := by decide +kernel
theorem d_Law_law_723 : decode code 723 = .ok (.iload 5, 2) := by decide +kernel
theorem d_Law_law_725 : decode code 725 = .ok (.if_icmp .eq 5, 3) := by decide +kernel
theorem d_Law_law_728 : decode code 728 = .ok (.iconst 0, 1) := by decide +kernel
theorem d_Law_law_729 : decode code 729 = .ok (.ireturn, 1) := by decide +kernel
theorem d_Law_law_730 : decode code 730 = .ok (.iload 5, 2) := by decide +kernel
theorem d_Law_law_732 : decode code 732 = .ok (.ifCond .ne 15, 3) := by decide +kernel
theorem d_Law_law_735 : decode code 735 = .ok (.aload_n 3, 1) := by decide +kernel
theorem d_Law_law_736 : decode code 736 = .ok (.iconst 0, 1) := by decide +kernel
theorem d_Law_law_737 : decode code 737 = .ok (.laload, 1) := by decide +kernel
theorem d_Law_law_738 : decode code 738 = .ok (.iload 6, 2) := by decide +kernel
theorem d_Law_law_740 : decode code 740 = .ok (.i2l, 1) := by decide +kernel
theorem d_Law_law_741 : decode code 741 = .ok (.lcmp, 1) := by decide +kernel
theorem d_Law_law_742 : decode code 742 = .ok (.ifCond .eq 5, 3) := by decide +kernel
theorem d_Law_law_745 : decode code 745 = .ok (.iconst 0, 1) := by decide +kernel
theorem d_Law_law_746 : decode code 746 = .ok (.ireturn, 1) := by decide +kernel
theorem d_Law_law_747 : decode code 747 = .ok (.goto 399, 3) := by decide +kernel
theorem d_Law_law_750 : decode code 750 = .ok (.aload_n 1, 1) := by decide +kernel
theorem d_Law_law_751 : decode code 751 = .ok (.aload_n 0, 1) := by decide +kernel
theorem d_Law_law_752 : decode code 752 = .ok (.iload 4, 2) := by decide +kernel
theorem d_Law_law_754 : decode code 754 = .ok (.iconst 1, 1) := by decide +kernel
theorem d_Law_law_755 : decode code 755 = .ok (.iadd, 1) := by decide +kernel
theorem d_Law_law_756 : decode code 756 = .ok (.iaload, 1) := by decide +kernel
theorem d_Law_law_757 : decode code 757 = .ok (.aload_n 0, 1) := by decide +kernel
theorem d_Law_law_758 : decode code 758 = .ok (.iload 4, 2) := by decide +kernel
theorem d_Law_law_760 : decode code 760 = .ok (.iconst 2, 1) := by decide +kernel
theorem d_Law_law_761 : decode code 761 = .ok (.iadd, 1) := by decide +kernel
theorem d_Law_law_762 : decode code 762 = .ok (.iaload, 1) := by decide +kernel
theorem d_Law_law_763 : decode code 763 = .ok (.aload_n 3, 1) := by decide +kernel
theorem d_Law_law_764 : decode code 764 = .ok (.invokestatic 122, 3) := by decide +kernel
theorem d_Law_law_767 : decode code 767 = .ok (.istore 5, 2) := by decide +kernel
theorem d_Law_law_769 : decode code 769 = .ok (.aload_n 2, 1) := by decide +kernel
theorem d_Law_law_770 : decode code 770 = .ok (.aload_n 0, 1) := by decide +kernel
theorem d_Law_law_771 : decode code 771 = .ok (.iload 4, 2) := by decide +kernel
theorem d_Law_law_773 : decode code 773 = .ok (.iconst 1, 1) := by decide +kernel
theorem d_Law_law_774 : decode code 774 = .ok (.iadd, 1) := by decide +kernel
theorem d_Law_law_775 : decode code 775 = .ok (.iaload, 1) := by decide +kernel
theorem d_Law_law_776 : decode code 776 = .ok (.aload_n 0, 1) := by decide +kernel
theorem d_Law_law_777 : decode code 777 = .ok (.iload 4, 2) := by decide +kernel
theorem d_Law_law_779 : decode code 779 = .ok (.iconst 2, 1) := by decide +kernel
theorem d_Law_law_780 : decode code 780 = .ok (.iadd, 1) := by decide +kernel
theorem d_Law_law_781 : decode code 781 = .ok (.iaload, 1) := by decide +kernel
theorem d_Law_law_782 : decode code 782 = .ok (.invokevirtual 124, 3) := by decide +kernel
theorem d_Law_law_785 : decode code 785 = .ok (.istore 6, 2) := by decide +kernel
theorem d_Law_law_787 : decode code 787 = .ok (.aload_n 2, 1) := by decide +kernel
theorem d_Law_law_788 : decode code 788 = .ok (.invokevirtual 83, 3) := by decide +kernel
theorem d_Law_law_791 : decode code 791 = .ok (.iload 5, 2) := by decide +kernel
end
section
theorem d_Law_law_793 : decode code 793 = .ok (.if_icmp .eq 5, 3) := by decide +kernel
theorem d_Law_law_796 : decode code 796 = .ok (.iconst 0, 1) := by decide +kernel
theorem d_Law_law_797 : decode code 797 = .ok (.ireturn, 1) := by decide +kernel
theorem d_Law_law_798 : decode code 798 = .ok (.iload 5, 2) := by decide +kernel
theorem d_Law_law_800 : decode code 800 = .ok (.ifCond .ne 15, 3) := by decide +kernel
theorem d_Law_law_803 : decode code 803 = .ok (.aload_n 3, 1) := by decide +kernel
theorem d_Law_law_804 : decode code 804 = .ok (.iconst 0, 1) := by decide +kernel
theorem d_Law_law_805 : decode code 805 = .ok (.laload, 1) := by decide +kernel
theorem d_Law_law_806 : decode code 806 = .ok (.iload 6, 2) := by decide +kernel
theorem d_Law_law_808 : decode code 808 = .ok (.i2l, 1) := by decide +kernel
theorem d_Law_law_809 : decode code 809 = .ok (.lcmp, 1) := by decide +kernel
theorem d_Law_law_810 : decode code 810 = .ok (.ifCond .eq 5, 3) := by decide +kernel
theorem d_Law_law_813 : decode code 813 = .ok (.iconst 0, 1) := by decide +kernel
theorem d_Law_law_814 : decode code 814 = .ok (.ireturn, 1) := by decide +kernel
theorem d_Law_law_815 : decode code 815 = .ok (.goto 331, 3) := by decide +kernel
theorem d_Law_law_818 : decode code 818 = .ok (.aload_n 1, 1) := by decide +kernel
theorem d_Law_law_819 : decode code 819 = .ok (.aload_n 0, 1) := by decide +kernel
theorem d_Law_law_820 : decode code 820 = .ok (.iload 4, 2) := by decide +kernel
theorem d_Law_law_822 : decode code 822 = .ok (.iconst 1, 1) := by decide +kernel
theorem d_Law_law_823 : decode code 823 = .ok (.iadd, 1) := by decide +kernel
theorem d_Law_law_824 : decode code 824 = .ok (.iaload, 1) := by decide +kernel
theorem d_Law_law_825 : decode code 825 = .ok (.aload_n 0, 1) := by decide +kernel
theorem d_Law_law_826 : decode code 826 = .ok (.iload 4, 2) := by decide +kernel
theorem d_Law_law_828 : decode code 828 = .ok (.iconst 2, 1) := by decide +kernel
theorem d_Law_law_829 : decode code 829 = .ok (.iadd, 1) := by decide +kernel
theorem d_Law_law_830 : decode code 830 = .ok (.iaload, 1) := by decide +kernel
theorem d_Law_law_831 : decode code 831 = .ok (.aload_n 3, 1) := by decide +kernel
theorem d_Law_law_832 : decode code 832 = .ok (.invokestatic 125, 3) := by decide +kernel
theorem d_Law_law_835 : decode code 835 = .ok (.istore 5, 2) := by decide +kernel
theorem d_Law_law_837 : decode code 837 = .ok (.aload_n 2, 1) := by decide +kernel
theorem d_Law_law_838 : decode code 838 = .ok (.aload_n 0, 1) := by decide +kernel
theorem d_Law_law_839 : decode code 839 = .ok (.iload 4, 2) := by decide +kernel
theorem d_Law_law_841 : decode code 841 = .ok (.iconst 1, 1) := by decide +kernel
theorem d_Law_law_842 : decode code 842 = .ok (.iadd, 1) := by decide +kernel
theorem d_Law_law_843 : decode code 843 = .ok (.iaload, 1) := by decide +kernel
theorem d_Law_law_844 : decode code 844 = .ok (.aload_n 0, 1) := by decide +kernel
theorem d_Law_law_845 : decode code 845 = .ok (.iload 4, 2) := by decide +kernel
theorem d_Law_law_847 : decode code 847 = .ok (.iconst 2, 1) := by decide +kernel
theorem d_Law_law_848 : decode code 848 = .ok (.iadd, 1) := by decide +kernel
theorem d_Law_law_849 : decode code 849 = .ok (.iaload, 1) := by decide +kernel
theorem d_Law_law_850 : decode code 850 = .ok (.invokevirtual 127, 3) := by decide +kernel
theorem d_Law_law_853 : decode code 853 = .ok (.istore 6, 2) := by decide +kernel
theorem d_Law_law_855 : decode code 855 = .ok (.aload_n 2, 1) := by decide +kernel
theorem d_Law_law_856 : decode code 856 = .ok (.invokevirtual 83, 3) := by decide +kernel
theorem d_Law_law_859 : decode code 859 = .ok (.iload 5, 2) := by decide +kernel
theorem d_Law_law_861 : decode code 861 = .ok (.if_icmp .eq 5, 3) := by decide +kernel
theorem d_Law_law_864 : decode code 864 = .ok (.iconst 0, 1) := by decide +kernel
theorem d_Law_law_865 : decode code 865 = .ok (.ireturn, 1) := by decide +kernel
theorem d_Law_law_866 : decode code 866 = .ok (.iload 5, 2) := by decide +kernel
theorem d_Law_law_868 : decode code 868 = .ok (.ifCond .ne 15, 3) := by decide +kernel
theorem d_Law_law_871 : decode code 871 = .ok (.aload_n 3, 1) := by decide +kernel
theorem d_Law_law_872 : decode code 872 = .ok (.iconst 0, 1) := by decide +kernel
theorem d_Law_law_873 : decode code 873 = .ok (.laload, 1) := by decide +kernel
theorem d_Law_law_874 : decode code 874 = .ok (.iload 6, 2) := by decide +kernel
theorem d_Law_law_876 : decode code 876 = .ok (.i2l, 1) := by decide +kernel
theorem d_Law_law_877 : decode code 877 = .ok (.lcmp, 1) := by decide +kernel
theorem d_Law_law_878 : decode code 878 = .ok (.ifCond .eq 5, 3) := by decide +kernel
theorem d_Law_law_881 : decode code 881 = .ok (.iconst 0, 1) := by decide +kernel
theorem d_Law_law_882 : decode code 882 = .ok (.ireturn, 1) := by decide +kernel
theorem d_Law_law_883 : decode code 883 = .ok (.goto 263, 3) := by decide +kernel
theorem d_Law_law_886 : decode code 886 = .ok (.aload_n 1, 1) := by decide +kernel
theorem d_Law_law_887 : decode code 887 = .ok (.aload_n 0, 1) := by decide +kernel
theorem d_Law_law_888 : decode code 888 = .ok (.iload 4, 2) := by decide +kernel
theorem d_Law_law_890 : decode code 890 = .ok (.iconst 1, 1) := by decide +kernel
theorem d_Law_law_891 : decode code 891 = .ok (.iadd, 1) := by decide +kernel
theorem d_Law_law_892 : decode code 892 = .ok (.iaload, 1) := by decide +kernel
theorem d_Law_law_893 : decode code 893 = .ok (.aload_n 3, 1) := by decide +kernel
theorem d_Law_law_894 : decode code 894 = .ok (.invokestatic 128, 3) := by decide +kernel
theorem d_Law_law_897 : decode code 897 = .ok (.istore 5, 2) := by decide +kernel
theorem d_Law_law_899 : decode code 899 = .ok (.aload_n 2, 1) := by decide +kernel
theorem d_Law_law_900 : decode code 900 = .ok (.aload_n 0, 1) := by decide +kernel
theorem d_Law_law_901 : decode code 901 = .ok (.iload 4, 2) := by decide +kernel
theorem d_Law_law_903 : decode code 903 = .ok (.iconst 1, 1) := by decide +kernel
theorem d_Law_law_904 : decode code 904 = .ok (.iadd, 1) := by decide +kernel
theorem d_Law_law_905 : decode code 905 = .ok (.iaload, 1) := by decide +kernel
theorem d_Law_law_906 : decode code 906 = .ok (.invokevirtual 130, 3) := by decide +kernel
theorem d_Law_law_909 : decode code 909 = .ok (.istore 6, 2) := by decide +kernel
theorem d_Law_law_911 : decode code 911 = .ok (.aload_n 2, 1) := by decide +kernel
theorem d_Law_law_912 : decode code 912 = .ok (.invokevirtual 83, 3) := by decide +kernel
theorem d_Law_law_915 : decode code 915 = .ok (.iload 5, 2) := by decide +kernel
theorem d_Law_law_917 : decode code 917 = .ok (.if_icmp .eq 5, 3) := by decide +kernel
theorem d_Law_law_920 : decode code 920 = .ok (.iconst 0, 1) := by decide +kernel
theorem d_Law_law_921 : decode code 921 = .ok (.ireturn, 1) := by decide +kernel
theorem d_Law_law_922 : decode code 922 = .ok (.iload 5, 2) := by decide +kernel
theorem d_Law_law_924 : decode code 924 = .ok (.ifCond .ne 15, 3) := by decide +kernel
theorem d_Law_law_927 : decode code 927 = .ok (.aload_n 3, 1) := by decide +kernel
theorem d_Law_law_928 : decode code 928 = .ok (.iconst 0, 1) := by decide +kernel
theorem d_Law_law_929 : decode code 929 = .ok (.laload, 1) := by decide +kernel
theorem d_Law_law_930 : decode code 930 = .ok (.iload 6, 2) := by decide +kernel
theorem d_Law_law_932 : decode code 932 = .ok (.i2l, 1) := by decide +kernel
theorem d_Law_law_933 : decode code 933 = .ok (.lcmp, 1) := by decide +kernel
theorem d_Law_law_934 : decode code 934 = .ok (.ifCond .eq 5, 3) := by decide +kernel
theorem d_Law_law_937 : decode code 937 = .ok (.iconst 0, 1) := by decide +kernel
theorem d_Law_law_938 : decode code 938 = .ok (.ireturn, 1) := by decide +kernel
theorem d_Law_law_939 : decode code 939 = .ok (.goto 207, 3) := by decide +kernel
theorem d_Law_law_942 : decode code 942 = .ok (.aload_n 1, 1) := by decide +kernel
theorem d_Law_law_943 : decode code 943 = .ok (.aload_n 0, 1) := by decide +kernel
theorem d_Law_law_944 : decode code 944 = .ok (.iload 4, 2) := by decide +kernel
theorem d_Law_law_946 : decode code 946 = .ok (.iconst 1, 1) := by decide +kernel
theorem d_Law_law_947 : decode code 947 = .ok (.iadd, 1) := by decide +kernel
theorem d_Law_law_948 : decode code 948 = .ok (.iaload, 1) := by decide +kernel
theorem d_Law_law_949 : decode code 949 = .ok (.aload_n 0, 1) := by decide +kernel
theorem d_Law_law_950 : decode code 950 = .ok (.iload 4, 2) := by decide +kernel
theorem d_Law_law_952 : decode code 952 = .ok (.iconst 2, 1) := by decide +kernel
theorem d_Law_law_953 : decode code 953 = .ok (.iadd, 1) := by decide +kernel
theorem d_Law_law_954 : decode code 954 = .ok (.iaload, 1) := by decide +kernel
theorem d_Law_law_955 : decode code 955 = .ok (.aload_n 3, 1) := by decide +kernel
theorem d_Law_law_956 : decode code 956 = .ok (.invokestatic 131, 3) := by decide +kernel
theorem d_Law_law_959 : decode code 959 = .ok (.istore 5, 2) := by decide +kernel
theorem d_Law_law_961 : decode code 961 = .ok (.aload_n 2, 1) := by decide +kernel
theorem d_Law_law_962 : decode code 962 = .ok (.aload_n 0, 1) := by decide +kernel
theorem d_Law_law_963 : decode code 963 = .ok (.iload 4, 2) := by decide +kernel
theorem d_Law_law_965 : decode code 965 = .ok (.iconst 1, 1) := by decide +kernel
theorem d_Law_law_966 : decode code 966 = .ok (.iadd, 1) := by decide +kernel
theorem d_Law_law_967 : decode code 967 = .ok (.iaload, 1) := by decide +kernel
theorem d_Law_law_968 : decode code 968 = .ok (.aload_n 0, 1) := by decide +kernel
theorem d_Law_law_969 : decode code 969 = .ok (.iload 4, 2) := by decide +kernel
theorem d_Law_law_971 : decode code 971 = .ok (.iconst 2, 1) := by decide +kernel
theorem d_Law_law_972 : decode code 972 = .ok (.iadd, 1) := by decide +kernel
theorem d_Law_law_973 : decode code 973 = .ok (.iaload, 1) := by decide +kernel
theorem d_Law_law_974 : decode code 974 = .ok (.invokevirtual 133, 3) := by decide +kernel
theorem d_Law_law_977 : decode code 977 = .ok (.istore 6, 2) := by decide +kernel
theorem d_Law_law_979 : decode code 979 = .ok (.aload_n 2, 1) := by decide +kernel
theorem d_Law_law_980 : decode code 980 = .ok (.invokevirtual 83, 3) := by decide +kernel
theorem d_Law_law_983 : decode code 983 = .ok (.iload 5, 2) := by decide +kernel
theorem d_Law_law_985 : decode code 985 = .ok (.if_icmp .eq 5, 3) := by decide +kernel
theorem d_Law_law_988 : decode code 988 = .ok (.iconst 0, 1) := by decide +kernel
theorem d_Law_law_989 : decode code 989 = .ok (.ireturn, 1) := by decide +kernel
theorem d_Law_law_990 : decode code 990 = .ok (.iload 5, 2) := by decide +kernel
theorem d_Law_law_992 : decode code 992 = .ok (.ifCond .ne 15, 3) := by decide +kernel
theorem d_Law_law_995 : decode code 995 = .ok (.aload_n 3, 1) := by decide +kernel
theorem d_Law_law_996 : decode code 996 = .ok (.iconst 0, 1) := by decide +kernel
theorem d_Law_law_997 : decode code 997 = .ok (.laload, 1) := by decide +kernel
theorem d_Law_law_998 : decode code 998 = .ok (.iload 6, 2) := by decide +kernel
theorem d_Law_law_1000 : decode code 1000 = .ok (.i2l, 1) := by decide +kernel
theorem d_Law_law_1001 : decode code 1001 = .ok (.lcmp, 1) := by decide +kernel
theorem d_Law_law_1002 : decode code 1002 = .ok (.ifCond .eq 5, 3) := by decide +kernel
theorem d_Law_law_1005 : decode code 1005 = .ok (.iconst 0, 1) := by decide +kernel
theorem d_Law_law_1006 : decode code 1006 = .ok (.ireturn, 1) := by decide +kernel
theorem d_Law_law_1007 : decode code 1007 = .ok (.goto 139, 3) := by decide +kernel
theorem d_Law_law_1010 : decode code 1010 = .ok (.aload_n 1, 1) := by decide +kernel
theorem d_Law_law_1011 : decode code 1011 = .ok (.aload_n 0, 1) := by decide +kernel
theorem d_Law_law_1012 : decode code 1012 = .ok (.iload 4, 2) := by decide +kernel
theorem d_Law_law_1014 : decode code 1014 = .ok (.iconst 1, 1) := by decide +kernel
theorem d_Law_law_1015 : decode code 1015 = .ok (.iadd, 1) := by decide +kernel
theorem d_Law_law_1016 : decode code 1016 = .ok (.iaload, 1) := by decide +kernel
theorem d_Law_law_1017 : decode code 1017 = .ok (.aload_n 0, 1) := by decide +kernel
theorem d_Law_law_1018 : decode code 1018 = .ok (.iload 4, 2) := by decide +kernel
theorem d_Law_law_1020 : decode code 1020 = .ok (.iconst 2, 1) := by decide +kernel
theorem d_Law_law_1021 : decode code 1021 = .ok (.iadd, 1) := by decide +kernel
theorem d_Law_law_1022 : decode code 1022 = .ok (.iaload, 1) := by decide +kernel
theorem d_Law_law_1023 : decode code 1023 = .ok (.aload_n 3, 1) := by decide +kernel
theorem d_Law_law_1024 : decode code 1024 = .ok (.invokestatic 134, 3) := by decide +kernel
theorem d_Law_law_1027 : decode code 1027 = .ok (.istore 5, 2) := by decide +kernel
theorem d_Law_law_1029 : decode code 1029 = .ok (.aload_n 2, 1) := by decide +kernel
theorem d_Law_law_1030 : decode code 1030 = .ok (.aload_n 0, 1) := by decide +kernel
theorem d_Law_law_1031 : decode code 1031 = .ok (.iload 4, 2) := by decide +kernel
theorem d_Law_law_1033 : decode code 1033 = .ok (.iconst 1, 1) := by decide +kernel
theorem d_Law_law_1034 : decode code 1034 = .ok (.iadd, 1) := by decide +kernel
theorem d_Law_law_1035 : decode code 1035 = .ok (.iaload, 1) := by decide +kernel
theorem d_Law_law_1036 : decode code 1036 = .ok (.aload_n 0, 1) := by decide +kernel
theorem d_Law_law_1037 : decode code 1037 = .ok (.iload 4, 2) := by decide +kernel
theorem d_Law_law_1039 : decode code 1039 = .ok (.iconst 2, 1) := by decide +kernel
theorem d_Law_law_1040 : decode code 1040 = .ok (.iadd, 1) := by decide +kernel
theorem d_Law_law_1041 : decode code 1041 = .ok (.iaload, 1) := by decide +kernel
theorem d_Law_law_1042 : decode code 1042 = .ok (.invokevirtual 136, 3) := by decide +kernel
theorem d_Law_law_1045 : decode code 1045 = .ok (.istore 6, 2) := by decide +kernel
theorem d_Law_law_1047 : decode code 1047 = .ok (.aload_n 2, 1) := by decide +kernel
theorem d_Law_law_1048 : decode code 1048 = .ok (.invokevirtual 83, 3) := by decide +kernel
theorem d_Law_law_1051 : decode code 1051 = .ok (.iload 5, 2) := by decide +kernel
theorem d_Law_law_1053 : decode code 1053 = .ok (.if_icmp .eq 5, 3) := by decide +kernel
theorem d_Law_law_1056 : decode code 1056 = .ok (.iconst 0, 1) := by decide +kernel
theorem d_Law_law_1057 : decode code 1057 = .ok (.ireturn, 1) := by decide +kernel
theorem d_Law_law_1058 : decode code 1058 = .ok (.iload 5, 2) := by decide +kernel
theorem d_Law_law_1060 : decode code 1060 = .ok (.ifCond .ne 15, 3) := by decide +kernel
theorem d_Law_law_1063 : decode code 1063 = .ok (.aload_n 3, 1) := by decide +kernel
theorem d_Law_law_1064 : decode code 1064 = .ok (.iconst 0, 1) := by decide +kernel
theorem d_Law_law_1065 : decode code 1065 = .ok (.laload, 1) := by decide +kernel
theorem d_Law_law_1066 : decode code 1066 = .ok (.iload 6, 2) := by decide +kernel
theorem d_Law_law_1068 : decode code 1068 = .ok (.i2l, 1) := by decide +kernel
theorem d_Law_law_1069 : decode code 1069 = .ok (.lcmp, 1) := by decide +kernel
theorem d_Law_law_1070 : decode code 1070 = .ok (.ifCond .eq 5, 3) := by decide +kernel
theorem d_Law_law_1073 : decode code 1073 = .ok (.iconst 0, 1) := by decide +kernel
theorem d_Law_law_1074 : decode code 1074 = .ok (.ireturn, 1) := by decide +kernel
theorem d_Law_law_1075 : decode code 1075 = .ok (.goto 71, 3) := by decide +kernel
theorem d_Law_law_1078 : decode code 1078 = .ok (.aload_n 1, 1) := by decide +kernel
theorem d_Law_law_1079 : decode code 1079 = .ok (.aload_n 0, 1) := by decide +kernel
theorem d_Law_law_1080 : decode code 1080 = .ok (.iload 4, 2) := by decide +kernel
theorem d_Law_law_1082 : decode code 1082 = .ok (.iconst 1, 1) := by decide +kernel
theorem d_Law_law_1083 : decode code 1083 = .ok (.iadd, 1) := by decide +kernel
theorem d_Law_law_1084 : decode code 1084 = .ok (.iaload, 1) := by decide +kernel
theorem d_Law_law_1085 : decode code 1085 = .ok (.aload_n 0, 1) := by decide +kernel
theorem d_Law_law_1086 : decode code 1086 = .ok (.iload 4, 2) := by decide +kernel
theorem d_Law_law_1088 : decode code 1088 = .ok (.iconst 2, 1) := by decide +kernel
theorem d_Law_law_1089 : decode code 1089 = .ok (.iadd, 1) := by decide +kernel
theorem d_Law_law_1090 : decode code 1090 = .ok (.iaload, 1) := by decide +kernel
theorem d_Law_law_1091 : decode code 1091 = .ok (.aload_n 3, 1) := by decide +kernel
theorem d_Law_law_1092 : decode code 1092 = .ok (.invokestatic 137, 3) := by decide +kernel
theorem d_Law_law_1095 : decode code 1095 = .ok (.istore 5, 2) := by decide +kernel
theorem d_Law_law_1097 : decode code 1097 = .ok (.aload_n 2, 1) := by decide +kernel
theorem d_Law_law_1098 : decode code 1098 = .ok (.aload_n 0, 1) := by decide +kernel
theorem d_Law_law_1099 : decode code 1099 = .ok (.iload 4, 2) := by decide +kernel
theorem d_Law_law_1101 : decode code 1101 = .ok (.iconst 1, 1) := by decide +kernel
theorem d_Law_law_1102 : decode code 1102 = .ok (.iadd, 1) := by decide +kernel
theorem d_Law_law_1103 : decode code 1103 = .ok (.iaload, 1) := by decide +kernel
theorem d_Law_law_1104 : decode code 1104 = .ok (.aload_n 0, 1) := by decide +kernel
theorem d_Law_law_1105 : decode code 1105 = .ok (.iload 4, 2) := by decide +kernel
theorem d_Law_law_1107 : decode code 1107 = .ok (.iconst 2, 1) := by decide +kernel
theorem d_Law_law_1108 : decode code 1108 = .ok (.iadd, 1) := by decide +kernel
theorem d_Law_law_1109 : decode code 1109 = .ok (.iaload, 1) := by decide +kernel
theorem d_Law_law_1110 : decode code 1110 = .ok (.invokevirtual 139, 3) := by decide +kernel
theorem d_Law_law_1113 : decode code 1113 = .ok (.istore 6, 2) := by decide +kernel
theorem d_Law_law_1115 : decode code 1115 = .ok (.aload_n 2, 1) := by decide +kernel
theorem d_Law_law_1116 : decode code 1116 = .ok (.invokevirtual 83, 3) := by decide +kernel
theorem d_Law_law_1119 : decode code 1119 = .ok (.iload 5, 2) := by decide +kernel
theorem d_Law_law_1121 : decode code 1121 = .ok (.if_icmp .eq 5, 3) := by decide +kernel
theorem d_Law_law_1124 : decode code 1124 = .ok (.iconst 0, 1) := by decide +kernel
theorem d_Law_law_1125 : decode code 1125 = .ok (.ireturn, 1) := by decide +kernel
theorem d_Law_law_1126 : decode code 1126 = .ok (.iload 5, 2) := by decide +kernel
theorem d_Law_law_1128 : decode code 1128 = .ok (.ifCond .ne 15, 3) := by decide +kernel
theorem d_Law_law_1131 : decode code 1131 = .ok (.aload_n 3, 1) := by decide +kernel
theorem d_Law_law_1132 : decode code 1132 = .ok (.iconst 0, 1) := by decide +kernel
theorem d_Law_law_1133 : decode code 1133 = .ok (.laload, 1) := by decide +kernel
theorem d_Law_law_1134 : decode code 1134 = .ok (.iload 6, 2) := by decide +kernel
theorem d_Law_law_1136 : decode code 1136 = .ok (.i2l, 1) := by decide +kernel
theorem d_Law_law_1137 : decode code 1137 = .ok (.lcmp, 1) := by decide +kernel
theorem d_Law_law_1138 : decode code 1138 = .ok (.ifCond .eq 5, 3) := by decide +kernel
theorem d_Law_law_1141 : decode code 1141 = .ok (.iconst 0, 1) := by decide +kernel
theorem d_Law_law_1142 : decode code 1142 = .ok (.ireturn, 1) := by decide +kernel
theorem d_Law_law_1143 : decode code 1143 = .ok (.goto 3, 3) := by decide +kernel
theorem d_Law_law_1146 : decode code 1146 = .ok (.iinc 4 4, 3) := by decide +kernel
theorem d_Law_law_1149 : decode code 1149 = .ok (.goto (-1106), 3) := by decide +kernel
theorem d_Law_law_1152 : decode code 1152 = .ok (.iconst 1, 1) := by decide +kernel
theorem d_Law_law_1153 : decode code 1153 = .ok (.ireturn, 1) := by decide +kernel
end
section
/-! Names of cells, a state as numbers by name and slot. -/
abbrev gI : Type := Nat × Nat
abbrev gS : Type := (gI → Nat → Int32) × (gI → Nat → Int64)
def gset (S : gS) (i : gI) (k : Nat) (v : Int32) : gS := (fun j n => if j = i ∧ n = k then v else S.1 j n, S.2)
def gsetL (S : gS) (i : gI) (k : Nat) (v : Int64) : gS := (S.1, fun j n => if j = i ∧ n = k then v else S.2 j n)
def gcpy (S : gS) (i : gI) (sp : Nat) (j : gI) (dp n : Nat) : gS := (fun a k => if a = j then va_cpy (S.1 i) (S.1 j) sp dp n k else S.1 a k, S.2)
/-- class numbers and slots; classes of arrays; addresses; the other cells; lengths; the names -/
abbrev gY : Type := va_G × (Nat → ClassId) × (gI → Nat) × (gI → va_E) × (gI → Nat) × List gI
abbrev gDd (Y : gY) : va_G := Y.1
abbrev gAc (Y : gY) : Nat → ClassId := Y.2.1
abbrev gad (Y : gY) : gI → Nat := Y.2.2.1
abbrev gre (Y : gY) : gI → va_E := Y.2.2.2.1
abbrev gLn (Y : gY) : gI → Nat := Y.2.2.2.2.1
abbrev gLs (Y : gY) : List gI := Y.2.2.2.2.2
abbrev ju_ushr (x y : Int32) : Int32 := (x.toUInt32 >>> (y.toUInt32 &&& Int32.toUInt32 31)).toInt32
abbrev ju_lushr (x : Int64) (y : Int32) : Int64 := (x.toUInt64 >>> (y.toInt64.toUInt64 &&& Int64.toUInt64 63)).toInt64
abbrev ju_lshl (x : Int64) (y : Int32) : Int64 := x <<< (y.toInt64 &&& 63)
theorem gset_s (S : gS) (i : gI) (k : Nat) (v : Int32) : (gset S i k v).1 i k = v := by simp [gset]
theorem gset_n {S : gS} {i j : gI} {k n : Nat} {v : Int32} (h : j ≠ i ∨ n ≠ k) : (gset S i k v).1 j n = S.1 j n := by
  show (if j = i ∧ n = k then v else S.1 j n) = S.1 j n
  rw [if_neg]
  rintro ⟨a, b⟩
  rcases h with h | h
  · exact h a
  · exact h b
theorem gset_o {S : gS} {i j : gI} {k : Nat} {v : Int32} (h : j ≠ i) : (gset S i k v).1 j = S.1 j := funext fun _ => gset_n (Or.inl h)
theorem gset_u (S : gS) (i : gI) (k : Nat) (v : Int32) : (gset S i k v).1 i = upd (S.1 i) k v := by
  funext n
  show (if i = i ∧ n = k then v else S.1 i n) = _
  by_cases h : n = k
  · rw [if_pos ⟨rfl, h⟩, h, pk_us]
  · rw [if_neg (fun z => h z.2), pk_un h]
/-! Which cells there are: kinds 0 to 26 the object's, 30 on the reference's, 60 the law's row. Types: 0 to 10 classes, 20 to 24 rows. -/
def gTt : List Nat := [9, 1, 0, 20, 0, 20, 4, 21, 20, 20, 24, 20, 7, 21, 3, 21, 8, 6, 5, 20, 20, 2, 20, 20, 20, 20, 20, 99, 99, 99, 10, 20, 20, 20, 20, 20, 20, 20, 20, 20, 20, 22, 20, 20, 20, 20, 20, 20, 99, 99, 99, 99, 99, 99, 99, 99, 99, 99, 99, 99, 23]
def gT (i : gI) : Nat := gTt.getD i.1 99
abbrev gt_int : Nat := 20
abbrev gt_byte : Nat := 21
abbrev gt_bool : Nat := 22
abbrev gt_long : Nat := 23
abbrev gt_file : Nat := 24
def grf (i : gI) (k : Nat) : gI := match i.1 with
  | 0 => (match k with | 0 => (6, 0) | 1 => (10, 0) | 2 => (11, 0) | 3 => (12, 0) | 4 => (14, 0) | 5 => (16, 0) | 6 => (17, 0) | 7 => (18, 0) | _ => (21, 0))
  | 1 => (match k with | 0 => (6, 0) | 1 => (2, i.2) | _ => (4, i.2))
  | 2 => (3, i.2)
  | 4 => (5, i.2)
  | 6 => (match k with | 0 => (7, 0) | 1 => (8, 0) | _ => (9, 0))
  | 12 => (13, 0)
  | 14 => (15, 0)
  | 18 => (match k with | 0 => (19, 0) | _ => (20, 0))
  | 21 => (match k with | 0 => (22, 0) | 1 => (23, 0) | 2 => (24, 0) | 3 => (25, 0) | _ => (26, 0))
  | 30 => (match k with | 4 => (31, 0) | 5 => (32, 0) | 6 => (33, 0) | 7 => (34, 0) | 8 => (35, 0) | 9 => (36, 0) | 10 => (37, 0) | 12 => (38, 0) | 13 => (39, 0) | 14 => (40, 0) | 15 => (41, 0) | 16 => (42, 0) | 17 => (43, 0) | 18 => (44, 0) | 31 => (45, 0) | 32 => (46, 0) | _ => (47, 0))
  | 10 => (1, k)
  | _ => i
def gTys (Y : gY) : List (ClassId × FieldType) := [(gAc Y 0, .int), (gAc Y 1, .byte), (gAc Y 2, .boolean), (gAc Y 3, .long), (gAc Y 4, .object "LogDisk$DiskFile")]
def gf_Content (Y : gY) (S : gS) (i : gI) : List Value := [.ref (gad Y (grf i 0)), .int (S.1 i 1), .int (S.1 i 2)]
def gf_DiskFile (Y : gY) (S : gS) (i : gI) : List Value := [.ref (gad Y (grf i 0)), .ref (gad Y (grf i 1)), .ref (gad Y (grf i 2)), .int (S.1 i 3)]
def gf_Entries (Y : gY) (S : gS) (i : gI) : List Value := [.ref (gad Y (grf i 0)), .ref (gad Y (grf i 1)), .ref (gad Y (grf i 2)), .ref (gad Y (grf i 3)), .ref (gad Y (grf i 4))]
def gf_Frame (Y : gY) (S : gS) (i : gI) : List Value := [.ref (gad Y (grf i 0)), .int (S.1 i 1)]
def gf_Pages (Y : gY) (S : gS) (i : gI) : List Value := [.ref (gad Y (grf i 0)), .ref (gad Y (grf i 1)), .ref (gad Y (grf i 2)), .int (S.1 i 3)]
def gf_Segments (Y : gY) (S : gS) (i : gI) : List Value := [.ref (gad Y (grf i 0)), .ref (gad Y (grf i 1)), .int (S.1 i 2)]
def gf_Snapshot (Y : gY) (S : gS) (i : gI) : List Value := [.int (S.1 i 0), .int (S.1 i 1), .int (S.1 i 2), .int (S.1 i 3)]
def gf_Tape (Y : gY) (S : gS) (i : gI) : List Value := [.ref (gad Y (grf i 0)), .int (S.1 i 1)]
def gf_Vote (Y : gY) (S : gS) (i : gI) : List Value := [.int (S.1 i 0), .int (S.1 i 1), .long (S.2 i 2), .int (S.1 i 3), .int (S.1 i 4)]
def gf_LogDisk (Y : gY) (S : gS) (i : gI) : List Value := [.ref (gad Y (grf i 0)), .ref (gad Y (grf i 1)), .ref (gad Y (grf i 2)), .ref (gad Y (grf i 3)), .ref (gad Y (grf i 4)), .ref (gad Y (grf i 5)), .ref (gad Y (grf i 6)), .ref (gad Y (grf i 7)), .ref (gad Y (grf i 8)), .int (S.1 i 9), .int (S.1 i 10), .int (S.1 i 11)]
def gf_Mo (Y : gY) (S : gS) (i : gI) : List Value := [.int (S.1 i 0), .int (S.1 i 1), .int (S.1 i 2), .int (S.1 i 3), .ref (gad Y (grf i 4)), .ref (gad Y (grf i 5)), .ref (gad Y (grf i 6)), .ref (gad Y (grf i 7)), .ref (gad Y (grf i 8)), .ref (gad Y (grf i 9)), .ref (gad Y (grf i 10)), .int (S.1 i 11), .ref (gad Y (grf i 12)), .ref (gad Y (grf i 13)), .ref (gad Y (grf i 14)), .ref (gad Y (grf i 15)), .ref (gad Y (grf i 16)), .ref (gad Y (grf i 17)), .ref (gad Y (grf i 18)), .int (S.1 i 19), .int (S.1 i 20), .int (S.1 i 21), .int (S.1 i 22), .int (S.1 i 23), .int (S.1 i 24), .int (S.1 i 25), .int (S.1 i 26), .int (S.1 i 27), .int (S.1 i 28), .int (S.1 i 29), .int (S.1 i 30), .ref (gad Y (grf i 31)), .ref (gad Y (grf i 32)), .int (S.1 i 33), .ref (gad Y (grf i 34))]
def gce (Y : gY) (S : gS) (i : gI) : va_E := match gT i with
  | 0 => .inr (0, gf_Content Y S i)
  | 1 => .inr (1, gf_DiskFile Y S i)
  | 2 => .inr (2, gf_Entries Y S i)
  | 3 => .inr (3, gf_Frame Y S i)
  | 4 => .inr (4, gf_Pages Y S i)
  | 5 => .inr (5, gf_Segments Y S i)
  | 6 => .inr (6, gf_Snapshot Y S i)
  | 7 => .inr (7, gf_Tape Y S i)
  | 8 => .inr (8, gf_Vote Y S i)
  | 9 => .inr (9, gf_LogDisk Y S i)
  | 10 => .inr (10, gf_Mo Y S i)
  | 20 => .inl (gAc Y 0, gLn Y i, .inl (S.1 i))
  | 21 => .inl (gAc Y 1, gLn Y i, .inl (S.1 i))
  | 22 => .inl (gAc Y 2, gLn Y i, .inl (S.1 i))
  | 23 => .inl (gAc Y 3, gLn Y i, .inr (.inl (S.2 i)))
  | 24 => .inl (gAc Y 4, gLn Y i, .inr (.inr (.inr (.inr (fun j => some (gad Y (grf i j)))))))
  | _ => gre Y i
theorem gce_Content {Y : gY} {S : gS} {i : gI} (h : gT i = 0) : gce Y S i = .inr (0, gf_Content Y S i) := by
  unfold gce
  rw [h]
  first | done | rfl
theorem gce_DiskFile {Y : gY} {S : gS} {i : gI} (h : gT i = 1) : gce Y S i = .inr (1, gf_DiskFile Y S i) := by
  unfold gce
  rw [h]
  first | done | rfl
theorem gce_Entries {Y : gY} {S : gS} {i : gI} (h : gT i = 2) : gce Y S i = .inr (2, gf_Entries Y S i) := by
  unfold gce
  rw [h]
  first | done | rfl
theorem gce_Frame {Y : gY} {S : gS} {i : gI} (h : gT i = 3) : gce Y S i = .inr (3, gf_Frame Y S i) := by
  unfold gce
  rw [h]
  first | done | rfl
theorem gce_Pages {Y : gY} {S : gS} {i : gI} (h : gT i = 4) : gce Y S i = .inr (4, gf_Pages Y S i) := by
  unfold gce
  rw [h]
  first | done | rfl
theorem gce_Segments {Y : gY} {S : gS} {i : gI} (h : gT i = 5) : gce Y S i = .inr (5, gf_Segments Y S i) := by
  unfold gce
  rw [h]
  first | done | rfl
theorem gce_Snapshot {Y : gY} {S : gS} {i : gI} (h : gT i = 6) : gce Y S i = .inr (6, gf_Snapshot Y S i) := by
  unfold gce
  rw [h]
  first | done | rfl
theorem gce_Tape {Y : gY} {S : gS} {i : gI} (h : gT i = 7) : gce Y S i = .inr (7, gf_Tape Y S i) := by
  unfold gce
  rw [h]
  first | done | rfl
theorem gce_Vote {Y : gY} {S : gS} {i : gI} (h : gT i = 8) : gce Y S i = .inr (8, gf_Vote Y S i) := by
  unfold gce
  rw [h]
  first | done | rfl
theorem gce_LogDisk {Y : gY} {S : gS} {i : gI} (h : gT i = 9) : gce Y S i = .inr (9, gf_LogDisk Y S i) := by
  unfold gce
  rw [h]
  first | done | rfl
theorem gce_Mo {Y : gY} {S : gS} {i : gI} (h : gT i = 10) : gce Y S i = .inr (10, gf_Mo Y S i) := by
  unfold gce
  rw [h]
  first | done | rfl
theorem gce_int {Y : gY} {S : gS} {i : gI} (h : gT i = 20) : gce Y S i = .inl (gAc Y 0, gLn Y i, .inl (S.1 i)) := by
  unfold gce
  rw [h]
  first | done | rfl
theorem gce_byte {Y : gY} {S : gS} {i : gI} (h : gT i = 21) : gce Y S i = .inl (gAc Y 1, gLn Y i, .inl (S.1 i)) := by
  unfold gce
  rw [h]
  first | done | rfl
theorem gce_bool {Y : gY} {S : gS} {i : gI} (h : gT i = 22) : gce Y S i = .inl (gAc Y 2, gLn Y i, .inl (S.1 i)) := by
  unfold gce
  rw [h]
  first | done | rfl
theorem gce_long {Y : gY} {S : gS} {i : gI} (h : gT i = 23) : gce Y S i = .inl (gAc Y 3, gLn Y i, .inr (.inl (S.2 i))) := by
  unfold gce
  rw [h]
  first | done | rfl
theorem gce_file {Y : gY} {S : gS} {i : gI} (h : gT i = 24) : gce Y S i = .inl (gAc Y 4, gLn Y i, .inr (.inr (.inr (.inr (fun j => some (gad Y (grf i j))))))) := by
  unfold gce
  rw [h]
  first | done | rfl
theorem gce_congr {Y : gY} {S S' : gS} {i : gI} (h1 : S'.1 i = S.1 i) (h2 : S'.2 i = S.2 i) : gce Y S' i = gce Y S i := by
  unfold gce
  split <;> first | rfl | simp only [gf_Content, gf_DiskFile, gf_Entries, gf_Frame, gf_Pages, gf_Segments, gf_Snapshot, gf_Tape, gf_Vote, gf_LogDisk, gf_Mo, h1, h2]
def gNames : List gI := [(0, 0), (1, 0), (1, 1), (1, 2), (1, 3), (1, 4), (1, 5), (1, 6), (1, 7), (1, 8), (1, 9), (1, 10), (1, 11), (1, 12), (1, 13), (1, 14), (1, 15), (2, 0), (2, 1), (2, 2), (2, 3), (2, 4), (2, 5), (2, 6), (2, 7), (2, 8), (2, 9), (2, 10), (2, 11), (2, 12), (2, 13), (2, 14), (2, 15), (3, 0), (3, 1), (3, 2), (3, 3), (3, 4), (3, 5), (3, 6), (3, 7), (3, 8), (3, 9), (3, 10), (3, 11), (3, 12), (3, 13), (3, 14), (3, 15), (4, 0), (4, 1), (4, 2), (4, 3), (4, 4), (4, 5), (4, 6), (4, 7), (4, 8), (4, 9), (4, 10), (4, 11), (4, 12), (4, 13), (4, 14), (4, 15), (5, 0), (5, 1), (5, 2), (5, 3), (5, 4), (5, 5), (5, 6), (5, 7), (5, 8), (5, 9), (5, 10), (5, 11), (5, 12), (5, 13), (5, 14), (5, 15), (6, 0), (7, 0), (8, 0), (9, 0), (10, 0), (11, 0), (12, 0), (13, 0), (14, 0), (15, 0), (16, 0), (17, 0), (18, 0), (19, 0), (20, 0), (21, 0), (22, 0), (23, 0), (24, 0), (25, 0), (26, 0), (30, 0), (31, 0), (32, 0), (33, 0), (34, 0), (35, 0), (36, 0), (37, 0), (38, 0), (39, 0), (40, 0), (41, 0), (42, 0), (43, 0), (44, 0), (45, 0), (46, 0), (47, 0), (60, 0)]
def gis (Y : gY) (t : Nat) (i : gI) : Prop := gT i = t ∧ i ∈ gLs Y
/-- the names are apart, and so are the addresses -/
def gInj (Y : gY) : Prop := (gLs Y).Nodup ∧ ∀ i, i ∈ gLs Y → ∀ j, j ∈ gLs Y → gad Y i = gad Y j → i = j
/-- the world has just these cells; there are 16 files -/
def gOK (Y : gY) : Prop := gInj Y ∧ (∀ i, i ∈ gLs Y ↔ i ∈ gNames) ∧ gLn Y (10, 0) = 16
theorem gk_Content_row : gNames.all (fun i => decide (gT i = 0 → grf i 0 ∈ gNames ∧ gT (grf i 0) = 20)) = true := by decide +kernel
theorem gis_Content_row {Y : gY} {i : gI} (hY : gOK Y) (h : gis Y 0 i) : gis Y 20 (grf i 0) := by
  have h1 := of_decide_eq_true (List.all_eq_true.mp gk_Content_row i ((hY.2.1 i).mp h.2)) h.1
  exact ⟨h1.2, (hY.2.1 _).mpr h1.1⟩
theorem gk_DiskFile_pages : gNames.all (fun i => decide (gT i = 1 → grf i 0 ∈ gNames ∧ gT (grf i 0) = 4)) = true := by decide +kernel
theorem gis_DiskFile_pages {Y : gY} {i : gI} (hY : gOK Y) (h : gis Y 1 i) : gis Y 4 (grf i 0) := by
  have h1 := of_decide_eq_true (List.all_eq_true.mp gk_DiskFile_pages i ((hY.2.1 i).mp h.2)) h.1
  exact ⟨h1.2, (hY.2.1 _).mpr h1.1⟩
theorem gk_DiskFile_now : gNames.all (fun i => decide (gT i = 1 → grf i 1 ∈ gNames ∧ gT (grf i 1) = 0)) = true := by decide +kernel
theorem gis_DiskFile_now {Y : gY} {i : gI} (hY : gOK Y) (h : gis Y 1 i) : gis Y 0 (grf i 1) := by
  have h1 := of_decide_eq_true (List.all_eq_true.mp gk_DiskFile_now i ((hY.2.1 i).mp h.2)) h.1
  exact ⟨h1.2, (hY.2.1 _).mpr h1.1⟩
theorem gk_DiskFile_synced : gNames.all (fun i => decide (gT i = 1 → grf i 2 ∈ gNames ∧ gT (grf i 2) = 0)) = true := by decide +kernel
theorem gis_DiskFile_synced {Y : gY} {i : gI} (hY : gOK Y) (h : gis Y 1 i) : gis Y 0 (grf i 2) := by
  have h1 := of_decide_eq_true (List.all_eq_true.mp gk_DiskFile_synced i ((hY.2.1 i).mp h.2)) h.1
  exact ⟨h1.2, (hY.2.1 _).mpr h1.1⟩
theorem gk_Entries_file : gNames.all (fun i => decide (gT i = 2 → grf i 0 ∈ gNames ∧ gT (grf i 0) = 20)) = true := by decide +kernel
theorem gis_Entries_file {Y : gY} {i : gI} (hY : gOK Y) (h : gis Y 2 i) : gis Y 20 (grf i 0) := by
  have h1 := of_decide_eq_true (List.all_eq_true.mp gk_Entries_file i ((hY.2.1 i).mp h.2)) h.1
  exact ⟨h1.2, (hY.2.1 _).mpr h1.1⟩
theorem gk_Entries_start : gNames.all (fun i => decide (gT i = 2 → grf i 1 ∈ gNames ∧ gT (grf i 1) = 20)) = true := by decide +kernel
theorem gis_Entries_start {Y : gY} {i : gI} (hY : gOK Y) (h : gis Y 2 i) : gis Y 20 (grf i 1) := by
  have h1 := of_decide_eq_true (List.all_eq_true.mp gk_Entries_start i ((hY.2.1 i).mp h.2)) h.1
  exact ⟨h1.2, (hY.2.1 _).mpr h1.1⟩
theorem gk_Entries_term : gNames.all (fun i => decide (gT i = 2 → grf i 2 ∈ gNames ∧ gT (grf i 2) = 20)) = true := by decide +kernel
theorem gis_Entries_term {Y : gY} {i : gI} (hY : gOK Y) (h : gis Y 2 i) : gis Y 20 (grf i 2) := by
  have h1 := of_decide_eq_true (List.all_eq_true.mp gk_Entries_term i ((hY.2.1 i).mp h.2)) h.1
  exact ⟨h1.2, (hY.2.1 _).mpr h1.1⟩
theorem gk_Entries_kind : gNames.all (fun i => decide (gT i = 2 → grf i 3 ∈ gNames ∧ gT (grf i 3) = 20)) = true := by decide +kernel
theorem gis_Entries_kind {Y : gY} {i : gI} (hY : gOK Y) (h : gis Y 2 i) : gis Y 20 (grf i 3) := by
  have h1 := of_decide_eq_true (List.all_eq_true.mp gk_Entries_kind i ((hY.2.1 i).mp h.2)) h.1
  exact ⟨h1.2, (hY.2.1 _).mpr h1.1⟩
theorem gk_Entries_bytes : gNames.all (fun i => decide (gT i = 2 → grf i 4 ∈ gNames ∧ gT (grf i 4) = 20)) = true := by decide +kernel
theorem gis_Entries_bytes {Y : gY} {i : gI} (hY : gOK Y) (h : gis Y 2 i) : gis Y 20 (grf i 4) := by
  have h1 := of_decide_eq_true (List.all_eq_true.mp gk_Entries_bytes i ((hY.2.1 i).mp h.2)) h.1
  exact ⟨h1.2, (hY.2.1 _).mpr h1.1⟩
theorem gk_Frame_bytes : gNames.all (fun i => decide (gT i = 3 → grf i 0 ∈ gNames ∧ gT (grf i 0) = 21)) = true := by decide +kernel
theorem gis_Frame_bytes {Y : gY} {i : gI} (hY : gOK Y) (h : gis Y 3 i) : gis Y 21 (grf i 0) := by
  have h1 := of_decide_eq_true (List.all_eq_true.mp gk_Frame_bytes i ((hY.2.1 i).mp h.2)) h.1
  exact ⟨h1.2, (hY.2.1 _).mpr h1.1⟩
theorem gk_Pages_bytes : gNames.all (fun i => decide (gT i = 4 → grf i 0 ∈ gNames ∧ gT (grf i 0) = 21)) = true := by decide +kernel
theorem gis_Pages_bytes {Y : gY} {i : gI} (hY : gOK Y) (h : gis Y 4 i) : gis Y 21 (grf i 0) := by
  have h1 := of_decide_eq_true (List.all_eq_true.mp gk_Pages_bytes i ((hY.2.1 i).mp h.2)) h.1
  exact ⟨h1.2, (hY.2.1 _).mpr h1.1⟩
theorem gk_Pages_owners : gNames.all (fun i => decide (gT i = 4 → grf i 1 ∈ gNames ∧ gT (grf i 1) = 20)) = true := by decide +kernel
theorem gis_Pages_owners {Y : gY} {i : gI} (hY : gOK Y) (h : gis Y 4 i) : gis Y 20 (grf i 1) := by
  have h1 := of_decide_eq_true (List.all_eq_true.mp gk_Pages_owners i ((hY.2.1 i).mp h.2)) h.1
  exact ⟨h1.2, (hY.2.1 _).mpr h1.1⟩
theorem gk_Pages_unused : gNames.all (fun i => decide (gT i = 4 → grf i 2 ∈ gNames ∧ gT (grf i 2) = 20)) = true := by decide +kernel
theorem gis_Pages_unused {Y : gY} {i : gI} (hY : gOK Y) (h : gis Y 4 i) : gis Y 20 (grf i 2) := by
  have h1 := of_decide_eq_true (List.all_eq_true.mp gk_Pages_unused i ((hY.2.1 i).mp h.2)) h.1
  exact ⟨h1.2, (hY.2.1 _).mpr h1.1⟩
theorem gk_Segments_file : gNames.all (fun i => decide (gT i = 5 → grf i 0 ∈ gNames ∧ gT (grf i 0) = 20)) = true := by decide +kernel
theorem gis_Segments_file {Y : gY} {i : gI} (hY : gOK Y) (h : gis Y 5 i) : gis Y 20 (grf i 0) := by
  have h1 := of_decide_eq_true (List.all_eq_true.mp gk_Segments_file i ((hY.2.1 i).mp h.2)) h.1
  exact ⟨h1.2, (hY.2.1 _).mpr h1.1⟩
theorem gk_Segments_first : gNames.all (fun i => decide (gT i = 5 → grf i 1 ∈ gNames ∧ gT (grf i 1) = 20)) = true := by decide +kernel
theorem gis_Segments_first {Y : gY} {i : gI} (hY : gOK Y) (h : gis Y 5 i) : gis Y 20 (grf i 1) := by
  have h1 := of_decide_eq_true (List.all_eq_true.mp gk_Segments_first i ((hY.2.1 i).mp h.2)) h.1
  exact ⟨h1.2, (hY.2.1 _).mpr h1.1⟩
theorem gk_Tape_bytes : gNames.all (fun i => decide (gT i = 7 → grf i 0 ∈ gNames ∧ gT (grf i 0) = 21)) = true := by decide +kernel
theorem gis_Tape_bytes {Y : gY} {i : gI} (hY : gOK Y) (h : gis Y 7 i) : gis Y 21 (grf i 0) := by
  have h1 := of_decide_eq_true (List.all_eq_true.mp gk_Tape_bytes i ((hY.2.1 i).mp h.2)) h.1
  exact ⟨h1.2, (hY.2.1 _).mpr h1.1⟩
theorem gk_LogDisk_pages : gNames.all (fun i => decide (gT i = 9 → grf i 0 ∈ gNames ∧ gT (grf i 0) = 4)) = true := by decide +kernel
theorem gis_LogDisk_pages {Y : gY} {i : gI} (hY : gOK Y) (h : gis Y 9 i) : gis Y 4 (grf i 0) := by
  have h1 := of_decide_eq_true (List.all_eq_true.mp gk_LogDisk_pages i ((hY.2.1 i).mp h.2)) h.1
  exact ⟨h1.2, (hY.2.1 _).mpr h1.1⟩
theorem gk_LogDisk_files : gNames.all (fun i => decide (gT i = 9 → grf i 1 ∈ gNames ∧ gT (grf i 1) = 24)) = true := by decide +kernel
theorem gis_LogDisk_files {Y : gY} {i : gI} (hY : gOK Y) (h : gis Y 9 i) : gis Y 24 (grf i 1) := by
  have h1 := of_decide_eq_true (List.all_eq_true.mp gk_LogDisk_files i ((hY.2.1 i).mp h.2)) h.1
  exact ⟨h1.2, (hY.2.1 _).mpr h1.1⟩
theorem gk_LogDisk_keeps : gNames.all (fun i => decide (gT i = 9 → grf i 2 ∈ gNames ∧ gT (grf i 2) = 20)) = true := by decide +kernel
theorem gis_LogDisk_keeps {Y : gY} {i : gI} (hY : gOK Y) (h : gis Y 9 i) : gis Y 20 (grf i 2) := by
  have h1 := of_decide_eq_true (List.all_eq_true.mp gk_LogDisk_keeps i ((hY.2.1 i).mp h.2)) h.1
  exact ⟨h1.2, (hY.2.1 _).mpr h1.1⟩
theorem gk_LogDisk_tape : gNames.all (fun i => decide (gT i = 9 → grf i 3 ∈ gNames ∧ gT (grf i 3) = 7)) = true := by decide +kernel
theorem gis_LogDisk_tape {Y : gY} {i : gI} (hY : gOK Y) (h : gis Y 9 i) : gis Y 7 (grf i 3) := by
  have h1 := of_decide_eq_true (List.all_eq_true.mp gk_LogDisk_tape i ((hY.2.1 i).mp h.2)) h.1
  exact ⟨h1.2, (hY.2.1 _).mpr h1.1⟩
theorem gk_LogDisk_frame : gNames.all (fun i => decide (gT i = 9 → grf i 4 ∈ gNames ∧ gT (grf i 4) = 3)) = true := by decide +kernel
theorem gis_LogDisk_frame {Y : gY} {i : gI} (hY : gOK Y) (h : gis Y 9 i) : gis Y 3 (grf i 4) := by
  have h1 := of_decide_eq_true (List.all_eq_true.mp gk_LogDisk_frame i ((hY.2.1 i).mp h.2)) h.1
  exact ⟨h1.2, (hY.2.1 _).mpr h1.1⟩
theorem gk_LogDisk_vote : gNames.all (fun i => decide (gT i = 9 → grf i 5 ∈ gNames ∧ gT (grf i 5) = 8)) = true := by decide +kernel
theorem gis_LogDisk_vote {Y : gY} {i : gI} (hY : gOK Y) (h : gis Y 9 i) : gis Y 8 (grf i 5) := by
  have h1 := of_decide_eq_true (List.all_eq_true.mp gk_LogDisk_vote i ((hY.2.1 i).mp h.2)) h.1
  exact ⟨h1.2, (hY.2.1 _).mpr h1.1⟩
theorem gk_LogDisk_snapshot : gNames.all (fun i => decide (gT i = 9 → grf i 6 ∈ gNames ∧ gT (grf i 6) = 6)) = true := by decide +kernel
theorem gis_LogDisk_snapshot {Y : gY} {i : gI} (hY : gOK Y) (h : gis Y 9 i) : gis Y 6 (grf i 6) := by
  have h1 := of_decide_eq_true (List.all_eq_true.mp gk_LogDisk_snapshot i ((hY.2.1 i).mp h.2)) h.1
  exact ⟨h1.2, (hY.2.1 _).mpr h1.1⟩
theorem gk_LogDisk_segments : gNames.all (fun i => decide (gT i = 9 → grf i 7 ∈ gNames ∧ gT (grf i 7) = 5)) = true := by decide +kernel
theorem gis_LogDisk_segments {Y : gY} {i : gI} (hY : gOK Y) (h : gis Y 9 i) : gis Y 5 (grf i 7) := by
  have h1 := of_decide_eq_true (List.all_eq_true.mp gk_LogDisk_segments i ((hY.2.1 i).mp h.2)) h.1
  exact ⟨h1.2, (hY.2.1 _).mpr h1.1⟩
theorem gk_LogDisk_entries : gNames.all (fun i => decide (gT i = 9 → grf i 8 ∈ gNames ∧ gT (grf i 8) = 2)) = true := by decide +kernel
theorem gis_LogDisk_entries {Y : gY} {i : gI} (hY : gOK Y) (h : gis Y 9 i) : gis Y 2 (grf i 8) := by
  have h1 := of_decide_eq_true (List.all_eq_true.mp gk_LogDisk_entries i ((hY.2.1 i).mp h.2)) h.1
  exact ⟨h1.2, (hY.2.1 _).mpr h1.1⟩
theorem gk_Mo_sorts : gNames.all (fun i => decide (gT i = 10 → grf i 4 ∈ gNames ∧ gT (grf i 4) = 20)) = true := by decide +kernel
theorem gis_Mo_sorts {Y : gY} {i : gI} (hY : gOK Y) (h : gis Y 10 i) : gis Y 20 (grf i 4) := by
  have h1 := of_decide_eq_true (List.all_eq_true.mp gk_Mo_sorts i ((hY.2.1 i).mp h.2)) h.1
  exact ⟨h1.2, (hY.2.1 _).mpr h1.1⟩
theorem gk_Mo_as : gNames.all (fun i => decide (gT i = 10 → grf i 5 ∈ gNames ∧ gT (grf i 5) = 20)) = true := by decide +kernel
theorem gis_Mo_as {Y : gY} {i : gI} (hY : gOK Y) (h : gis Y 10 i) : gis Y 20 (grf i 5) := by
  have h1 := of_decide_eq_true (List.all_eq_true.mp gk_Mo_as i ((hY.2.1 i).mp h.2)) h.1
  exact ⟨h1.2, (hY.2.1 _).mpr h1.1⟩
theorem gk_Mo_bs : gNames.all (fun i => decide (gT i = 10 → grf i 6 ∈ gNames ∧ gT (grf i 6) = 20)) = true := by decide +kernel
theorem gis_Mo_bs {Y : gY} {i : gI} (hY : gOK Y) (h : gis Y 10 i) : gis Y 20 (grf i 6) := by
  have h1 := of_decide_eq_true (List.all_eq_true.mp gk_Mo_bs i ((hY.2.1 i).mp h.2)) h.1
  exact ⟨h1.2, (hY.2.1 _).mpr h1.1⟩
theorem gk_Mo_cs : gNames.all (fun i => decide (gT i = 10 → grf i 7 ∈ gNames ∧ gT (grf i 7) = 20)) = true := by decide +kernel
theorem gis_Mo_cs {Y : gY} {i : gI} (hY : gOK Y) (h : gis Y 10 i) : gis Y 20 (grf i 7) := by
  have h1 := of_decide_eq_true (List.all_eq_true.mp gk_Mo_cs i ((hY.2.1 i).mp h.2)) h.1
  exact ⟨h1.2, (hY.2.1 _).mpr h1.1⟩
theorem gk_Mo_froms : gNames.all (fun i => decide (gT i = 10 → grf i 8 ∈ gNames ∧ gT (grf i 8) = 20)) = true := by decide +kernel
theorem gis_Mo_froms {Y : gY} {i : gI} (hY : gOK Y) (h : gis Y 10 i) : gis Y 20 (grf i 8) := by
  have h1 := of_decide_eq_true (List.all_eq_true.mp gk_Mo_froms i ((hY.2.1 i).mp h.2)) h.1
  exact ⟨h1.2, (hY.2.1 _).mpr h1.1⟩
theorem gk_Mo_lengths : gNames.all (fun i => decide (gT i = 10 → grf i 9 ∈ gNames ∧ gT (grf i 9) = 20)) = true := by decide +kernel
theorem gis_Mo_lengths {Y : gY} {i : gI} (hY : gOK Y) (h : gis Y 10 i) : gis Y 20 (grf i 9) := by
  have h1 := of_decide_eq_true (List.all_eq_true.mp gk_Mo_lengths i ((hY.2.1 i).mp h.2)) h.1
  exact ⟨h1.2, (hY.2.1 _).mpr h1.1⟩
theorem gk_Mo_bytes : gNames.all (fun i => decide (gT i = 10 → grf i 10 ∈ gNames ∧ gT (grf i 10) = 20)) = true := by decide +kernel
theorem gis_Mo_bytes {Y : gY} {i : gI} (hY : gOK Y) (h : gis Y 10 i) : gis Y 20 (grf i 10) := by
  have h1 := of_decide_eq_true (List.all_eq_true.mp gk_Mo_bytes i ((hY.2.1 i).mp h.2)) h.1
  exact ⟨h1.2, (hY.2.1 _).mpr h1.1⟩
theorem gk_Mo_rows : gNames.all (fun i => decide (gT i = 10 → grf i 12 ∈ gNames ∧ gT (grf i 12) = 20)) = true := by decide +kernel
theorem gis_Mo_rows {Y : gY} {i : gI} (hY : gOK Y) (h : gis Y 10 i) : gis Y 20 (grf i 12) := by
  have h1 := of_decide_eq_true (List.all_eq_true.mp gk_Mo_rows i ((hY.2.1 i).mp h.2)) h.1
  exact ⟨h1.2, (hY.2.1 _).mpr h1.1⟩
theorem gk_Mo_counts : gNames.all (fun i => decide (gT i = 10 → grf i 13 ∈ gNames ∧ gT (grf i 13) = 20)) = true := by decide +kernel
theorem gis_Mo_counts {Y : gY} {i : gI} (hY : gOK Y) (h : gis Y 10 i) : gis Y 20 (grf i 13) := by
  have h1 := of_decide_eq_true (List.all_eq_true.mp gk_Mo_counts i ((hY.2.1 i).mp h.2)) h.1
  exact ⟨h1.2, (hY.2.1 _).mpr h1.1⟩
theorem gk_Mo_sizes : gNames.all (fun i => decide (gT i = 10 → grf i 14 ∈ gNames ∧ gT (grf i 14) = 20)) = true := by decide +kernel
theorem gis_Mo_sizes {Y : gY} {i : gI} (hY : gOK Y) (h : gis Y 10 i) : gis Y 20 (grf i 14) := by
  have h1 := of_decide_eq_true (List.all_eq_true.mp gk_Mo_sizes i ((hY.2.1 i).mp h.2)) h.1
  exact ⟨h1.2, (hY.2.1 _).mpr h1.1⟩
theorem gk_Mo_there : gNames.all (fun i => decide (gT i = 10 → grf i 15 ∈ gNames ∧ gT (grf i 15) = 22)) = true := by decide +kernel
theorem gis_Mo_there {Y : gY} {i : gI} (hY : gOK Y) (h : gis Y 10 i) : gis Y 22 (grf i 15) := by
  have h1 := of_decide_eq_true (List.all_eq_true.mp gk_Mo_there i ((hY.2.1 i).mp h.2)) h.1
  exact ⟨h1.2, (hY.2.1 _).mpr h1.1⟩
theorem gk_Mo_lows : gNames.all (fun i => decide (gT i = 10 → grf i 16 ∈ gNames ∧ gT (grf i 16) = 20)) = true := by decide +kernel
theorem gis_Mo_lows {Y : gY} {i : gI} (hY : gOK Y) (h : gis Y 10 i) : gis Y 20 (grf i 16) := by
  have h1 := of_decide_eq_true (List.all_eq_true.mp gk_Mo_lows i ((hY.2.1 i).mp h.2)) h.1
  exact ⟨h1.2, (hY.2.1 _).mpr h1.1⟩
theorem gk_Mo_shared : gNames.all (fun i => decide (gT i = 10 → grf i 17 ∈ gNames ∧ gT (grf i 17) = 20)) = true := by decide +kernel
theorem gis_Mo_shared {Y : gY} {i : gI} (hY : gOK Y) (h : gis Y 10 i) : gis Y 20 (grf i 17) := by
  have h1 := of_decide_eq_true (List.all_eq_true.mp gk_Mo_shared i ((hY.2.1 i).mp h.2)) h.1
  exact ⟨h1.2, (hY.2.1 _).mpr h1.1⟩
theorem gk_Mo_keeps : gNames.all (fun i => decide (gT i = 10 → grf i 18 ∈ gNames ∧ gT (grf i 18) = 20)) = true := by decide +kernel
theorem gis_Mo_keeps {Y : gY} {i : gI} (hY : gOK Y) (h : gis Y 10 i) : gis Y 20 (grf i 18) := by
  have h1 := of_decide_eq_true (List.all_eq_true.mp gk_Mo_keeps i ((hY.2.1 i).mp h.2)) h.1
  exact ⟨h1.2, (hY.2.1 _).mpr h1.1⟩
theorem gk_Mo_order : gNames.all (fun i => decide (gT i = 10 → grf i 31 ∈ gNames ∧ gT (grf i 31) = 20)) = true := by decide +kernel
theorem gis_Mo_order {Y : gY} {i : gI} (hY : gOK Y) (h : gis Y 10 i) : gis Y 20 (grf i 31) := by
  have h1 := of_decide_eq_true (List.all_eq_true.mp gk_Mo_order i ((hY.2.1 i).mp h.2)) h.1
  exact ⟨h1.2, (hY.2.1 _).mpr h1.1⟩
theorem gk_Mo_entries : gNames.all (fun i => decide (gT i = 10 → grf i 32 ∈ gNames ∧ gT (grf i 32) = 20)) = true := by decide +kernel
theorem gis_Mo_entries {Y : gY} {i : gI} (hY : gOK Y) (h : gis Y 10 i) : gis Y 20 (grf i 32) := by
  have h1 := of_decide_eq_true (List.all_eq_true.mp gk_Mo_entries i ((hY.2.1 i).mp h.2)) h.1
  exact ⟨h1.2, (hY.2.1 _).mpr h1.1⟩
theorem gk_Mo_fed : gNames.all (fun i => decide (gT i = 10 → grf i 34 ∈ gNames ∧ gT (grf i 34) = 20)) = true := by decide +kernel
theorem gis_Mo_fed {Y : gY} {i : gI} (hY : gOK Y) (h : gis Y 10 i) : gis Y 20 (grf i 34) := by
  have h1 := of_decide_eq_true (List.all_eq_true.mp gk_Mo_fed i ((hY.2.1 i).mp h.2)) h.1
  exact ⟨h1.2, (hY.2.1 _).mpr h1.1⟩
theorem gk_file : gNames.all (fun i => decide (gT i = 24 → i = (10, 0))) = true := by decide +kernel
theorem gk_elem : (List.range 16).all (fun f => decide (grf (10, 0) f ∈ gNames ∧ gT (grf (10, 0) f) = 1)) = true := by decide +kernel
theorem gis_elem_DiskFile {Y : gY} {i : gI} {x : Int32} (hY : gOK Y) (h : gis Y 24 i) (hin : vp_in x (gLn Y i)) : gis Y 1 (grf i x.toNatClampNeg) := by
  have h1 := of_decide_eq_true (List.all_eq_true.mp gk_file i ((hY.2.1 i).mp h.2)) h.1
  subst h1
  rw [hY.2.2] at hin
  have hlt : x.toNatClampNeg < 16 := Nat.not_le.mp fun q => hin (Or.inr q)
  have h2 := of_decide_eq_true (List.all_eq_true.mp gk_elem _ (List.mem_range.mpr hlt))
  exact ⟨h2.2, (hY.2.1 _).mpr h2.1⟩
end
section
/-! The world of a state, rows of the machine over it. Before this part: gT, grf, gTys, gce, gce_congr (printed out of the class's tables). -/
def gWs (Y : gY) (S : gS) : va_W := (gLs Y).map (fun i => (gad Y i, gce Y S i))
def gWd (Y : gY) (S : gS) (H : Heap) : Prop := va_P (gDd Y) gCl (gWs Y S) H
def gA (Y : gY) (sz : Nat) : Nat → Prop := fun q => (∃ i, i ∈ gLs Y ∧ gad Y i = q) ∨ sz ≤ q
theorem gWs_get {Y : gY} {S : gS} {k : Nat} {q : Nat × va_E} (h : (gWs Y S)[k]? = some q) : ∃ i, (gLs Y)[k]? = some i ∧ q = (gad Y i, gce Y S i) := by
  unfold gWs at h
  rw [List.getElem?_map] at h
  cases hi : (gLs Y)[k]? with
  | none => rw [hi] at h; cases h
  | some i => rw [hi] at h; exact ⟨i, rfl, (Option.some.inj h).symm⟩
theorem gWs_at {Y : gY} (S : gS) {i : gI} (h : i ∈ gLs Y) : ∃ k : Nat, (gLs Y)[k]? = some i ∧ (gWs Y S)[k]? = some (gad Y i, gce Y S i) := by
  obtain ⟨k, hk⟩ := List.getElem?_of_mem h
  refine ⟨k, hk, ?_⟩
  unfold gWs
  rw [List.getElem?_map, hk]
  rfl
theorem gD {Y : gY} {S : gS} {sz : Nat} (h : gInj Y) : va_D (gA Y sz) (gWs Y S) := by
  refine ⟨fun a b x y ha hb hxy => ?_, fun k q hk => ?_⟩
  · obtain ⟨i, h1, rfl⟩ := gWs_get ha
    obtain ⟨j, h2, rfl⟩ := gWs_get hb
    have hij := h.2 i (List.mem_of_getElem? h1) j (List.mem_of_getElem? h2) hxy
    subst hij
    exact (List.getElem?_inj (List.getElem?_eq_some_iff.mp h1).1 h.1).mp (h1.trans h2.symm)
  · obtain ⟨i, h1, rfl⟩ := gWs_get hk
    exact Or.inl ⟨i, List.mem_of_getElem? h1, rfl⟩
theorem gWd_set {Y : gY} {S S' : gS} {i : gI} {k : Nat} {e' : va_E} {H : Heap} (h : gInj Y) (hk : (gLs Y)[k]? = some i) (h1 : gce Y S' i = e') (h2 : ∀ j, j ≠ i → gce Y S' j = gce Y S j) (hP : va_P (gDd Y) gCl ((gWs Y S).set k (gad Y i, e')) H) : gWd Y S' H := by
  intro a q ha
  obtain ⟨j, hj, rfl⟩ := gWs_get ha
  have hl : k < (gWs Y S).length := by
    unfold gWs
    rw [List.length_map]
    exact (List.getElem?_eq_some_iff.mp hk).1
  by_cases hak : a = k
  · subst hak
    rw [hk] at hj
    cases hj
    rw [h1]
    exact hP a _ (List.getElem?_set_self hl)
  · have hji : j ≠ i := by
      intro z
      subst z
      exact hak ((List.getElem?_inj (List.getElem?_eq_some_iff.mp hj).1 h.1).mp (hj.trans hk.symm))
    rw [h2 j hji]
    refine hP a _ ?_
    rw [List.getElem?_set_ne (Ne.symm hak)]
    unfold gWs
    rw [List.getElem?_map, hj]
    rfl
theorem gce_gset {Y : gY} {S : gS} {i : gI} {k : Nat} {v : Int32} : ∀ j, j ≠ i → gce Y (gset S i k v) j = gce Y S j := fun j h => gce_congr (gset_o h) rfl
theorem gce_gsetL {Y : gY} {S : gS} {i : gI} {k : Nat} {v : Int64} : ∀ j, j ≠ i → gce Y (gsetL S i k v) j = gce Y S j := fun j h => gce_congr rfl (funext fun n => by show (if j = i ∧ n = k then v else S.2 j n) = _; rw [if_neg (fun z => h z.1)])
theorem gce_gcpy {Y : gY} {S : gS} {i i0 : gI} {sp dp n : Nat} : ∀ j, j ≠ i → gce Y (gcpy S i0 sp i dp n) j = gce Y S j := fun j h => gce_congr (funext fun n => by show (if j = i then _ else S.1 j n) = _; rw [if_neg h]) rfl
theorem gA_call {Y : gY} {s : State} {H : Heap} {locs : List Loc} (hS : va_S (gA Y s.heap.size) s.heap H locs) : ∀ q, gA Y H.size q → gA Y s.heap.size q := fun q h => h.elim Or.inl (fun z => Or.inr (Nat.le_trans hS.1 z))
section
variable {p : Program} {l : Launch} {e : Env} {R : Room} {s : State} {m : MethodId} {args : Array Value} {below : List Frame} {meth : Method} {c : Code} {H : Heap} {locs : List Loc} {cells slots : Nat} {Q : State → Prop}
variable {cc : ByteArray} {pc : Nat} {ls : Array Slot} {rest : List Value} {Y : gY} {S : gS} {i : gI} {t : Nat}
theorem g_get (hx : p.tables.exec = Jvm.exec) (hb : c.code = cc) {own C : String} {T : u_T} {N ci index : Nat} {Ts : List Cond} (hts : ∀ w ∈ Ts, w.before args s = true) (hin : ∀ w ∈ u_ws C T N, w ∈ Ts) (hown : s.vm.findClass own = some m.cls) (hK : va_K (gDd Y) gCl (gTys Y) s) (hP : gWd Y S H) (hi : gis Y t i) {fs : List Value} (he : gce Y S i = .inr (ci, fs)) (hc : gCl[ci]? = some (C, T, N)) (k : Nat) (hk : k < N) (hlink : (Cond.fieldLink own index (T k).1 (T k).2.1 (T k).2.2.1).before args s = true) {v : Value} (hv : fs[k]? = some v) (hdg : decode cc pc = .ok (.getfield index, 3))
    (kk : W p l e R s m args below meth c H locs cells slots Q (F0 m (pc + 3) ls (v :: rest))) : W p l e R s m args below meth c H locs cells slots Q (F0 m pc ls (.ref (gad Y i) :: rest)) := by
  obtain ⟨q0, -, h1⟩ := gWs_at S hi.2
  rw [he] at h1
  exact va_get hx hb hts hin hown hK hP q0 h1 hc k hk hlink (fun _ h => h) hv hdg kk
theorem g_put (hx : p.tables.exec = Jvm.exec) (hb : c.code = cc) {own C : String} {T : u_T} {N ci index : Nat} {Ts : List Cond} (hts : ∀ w ∈ Ts, w.before args s = true) (hin : ∀ w ∈ u_ws C T N, w ∈ Ts) (ty0 : Nat → FieldType) (hty : ∀ k, k < N → parseFieldDescriptor (T k).2.2.1 = some (ty0 k)) (hnm : ∀ a, a < N → ∀ b, b < N → a ≠ b → (T a).2.1 ≠ (T b).2.1) (hown : s.vm.findClass own = some m.cls) (hK : va_K (gDd Y) gCl (gTys Y) s) (hJ : gInj Y) (hP : gWd Y S H) (hS : va_S (gA Y s.heap.size) s.heap H locs) (hi : gis Y t i) {fs : List Value} (he : gce Y S i = .inr (ci, fs)) (hc : gCl[ci]? = some (C, T, N)) (k : Nat) (hk : k < N) (hlink : (Cond.fieldLink own index (T k).1 (T k).2.1 (T k).2.2.1).before args s = true) (hfin : (T k).2.2.2 = false) {ty : FieldType} {v : Value} (hd : parseFieldDescriptor (T k).2.2.1 = some ty) (hn : narrow ty v = v) (hfit : fits ty v = true) (hl : k < fs.length) {S' : gS} (h1 : gce Y S' i = .inr (ci, fs.set k v)) (h2 : ∀ j, j ≠ i → gce Y S' j = gce Y S j)
    (hdg : decode cc pc = .ok (.putfield index, 3)) (kk : ∀ (H1 : Heap) (locs1 : List Loc), gWd Y S' H1 → va_S (gA Y s.heap.size) s.heap H1 locs1 → W p l e R s m args below meth c H1 locs1 cells slots Q (F0 m (pc + 3) ls rest)) : W p l e R s m args below meth c H locs cells slots Q (F0 m pc ls (v :: .ref (gad Y i) :: rest)) := by
  obtain ⟨q0, h0, h3⟩ := gWs_at S hi.2
  rw [he] at h3
  exact va_put hx hb hts hin ty0 hty hnm hown hK hP (gD hJ) hS q0 h3 hc k hk hlink (fun _ h => h) hfin hd hn hfit hl hdg (fun H1 locs1 hP1 _ hS1 => kk H1 locs1 (gWd_set hJ h0 h1 h2 hP1) hS1)
end
/-! What is given of the start: links of nest mates, the table of the sum. -/
def gSumL : List Int32 := [0, 498536548, 997073096, 651767980, 1994146192, 1802195444, 1303535960, 1342533948, -306674912, -267414716, -690576408, -882789492, -1687895376, -2032938284, -1609899400, -1111625188]
def gSum (j : Nat) : Int32 := gSumL.getD j 0
def gNs (U : State) : Prop := va_Nw (.methodLinkNest "LogDisk$Content" 17 y_LogDisk_pagesFor "LogDisk") U ∧ va_Nw (.methodLinkNest "LogDisk$DiskFile" 31 y_LogDisk_pagesFor "LogDisk") U ∧ va_Nw (.methodLinkNest "LogDisk$DiskFile" 110 y_LogDisk_sumStep "LogDisk") U ∧ va_Nw (.methodLinkNest "LogDisk$Frame" 29 y_LogDisk_sumStep "LogDisk") U
def gTab (A : Nat → Prop) (U : State) (H : Heap) : Prop := ∃ t : Nat, va_Z "LogDisk" "SUM_OF_HALF" "[I" (.ref t) A U H ∧ va_T .int t 16 (fun j => .int (gSum j)) A U H
/-- throws: the constructors' places, the texts, the classes that are not each other's -/
def gxExc : List (Nat × String) := [(93, "java/lang/IllegalArgumentException"), (103, "java/lang/IllegalStateException"), (128, "java/lang/UnsupportedOperationException"), (193, "java/lang/IndexOutOfBoundsException"), (274, "java/util/NoSuchElementException")]
def gxStr : List (Nat × String) := [(91, "n is not 1 .. 8"), (101, "the tape would have more than 4096 bytes"), (112, "term is not TERM .. 1000000"), (114, "voted is not NONE .. 6"), (126, "full"), (157, "term is below that of LAST or above 1000000"), (159, "kind is not 0 .. 2"), (164, "there are 300 entries above BASE"), (191, "not BASE + 1 .. LAST"), (220, "base is not BASE + 1 .. 1000000"), (222, "term is not 0 .. 1000000"), (230, "no such file"), (232, "keep is below 0"), (257, "no such what"), (259, "no such entry"), (268, "no such entry above BASE"), (272, "no such byte"), (280, "no such segment")]
def gxNo : List (String × String) := [("java/lang/IllegalStateException", "java/lang/IllegalArgumentException"), ("java/lang/UnsupportedOperationException", "java/lang/IllegalArgumentException"), ("java/lang/UnsupportedOperationException", "java/lang/IllegalStateException"), ("java/lang/UnsupportedOperationException", "java/lang/IndexOutOfBoundsException"), ("java/lang/IllegalArgumentException", "java/lang/IndexOutOfBoundsException"), ("java/util/NoSuchElementException", "java/lang/IndexOutOfBoundsException")]
def gxWords (own : String) (ic : Nat) (E : String) : List Cond := Bundle.ownAtoms own ic E ["java/lang/RuntimeException", "java/lang/Exception"]
def gxAll : List Cond := gxExc.flatMap (fun q => gxWords "LogDisk" q.1 q.2) ++ (gxStr.map (fun q => Cond.stringRef "LogDisk" q.1 q.2) ++ gxNo.map (fun q => Cond.not (Cond.castable q.1 q.2)))
/-- these words hold, and go on to hold where only A was written -/
def gxF (A : Nat → Prop) (U : State) : Prop := ∀ (V : State) (a' : Array Value), U.WarmedH V.vm → (∀ a : Nat, a < U.heap.size → ¬ A a → V.heap[a]? = U.heap[a]?) → ∀ w ∈ gxAll, w.before a' V = true
def gSt (Y : gY) (sz : Nat) (U : State) : Prop := gNs U ∧ gTab (gA Y sz) U U.heap ∧ gxF (gA Y sz) U
theorem gSt_calling {Y : gY} {sz : Nat} {U : State} {g : JFrame} {mk : MethodId} {a : Array Value} (h : gSt Y sz U) : gSt Y sz (U.calling g mk a) := by
  obtain ⟨⟨n1, n2, n3, n4⟩, ⟨t, hz, ht⟩, hF⟩ := h
  exact ⟨⟨n1.same rfl rfl, n2.same rfl rfl, n3.same rfl rfl, n4.same rfl rfl⟩, ⟨t, va_Z.moved (Vm.Alike.refl U.vm) hz, va_T.moved (Vm.Alike.refl U.vm) ht⟩, fun V a' h1 h2 => hF V a' h1 h2⟩
theorem gSt_call {Y : gY} {s U : State} {H : Heap} {locs : List Loc} (h : gSt Y s.heap.size s) (hS : va_S (gA Y s.heap.size) s.heap H locs) (hU : U.heap = H) (hW : s.WarmedH U.vm) : gSt Y H.size U := by
  obtain ⟨⟨n1, n2, n3, n4⟩, ⟨t, hz, ht⟩, hF⟩ := h
  subst hU
  refine ⟨⟨n1.warmM hW, n2.warmM hW, n3.warmM hW, n4.warmM hW⟩, ⟨t, va_Z.moved hW.alike ((hz.kept (fun a h1 h2 => hS.2.1 a h1 h2)).narrow (gA_call hS)), va_T.moved hW.alike ((ht.kept (fun a h1 h2 => hS.2.1 a h1 h2)).narrow (gA_call hS))⟩, fun V a' h1 h2 => hF V a' (State.WarmedH.trans hW h1) (fun a h3 h4 => ?_)⟩
  rw [h2 a (Nat.lt_of_lt_of_le h3 hS.1) (fun z => h4 (gA_call hS a z))]
  exact hS.2.1 a h3 h4
end
section
/-! Arrays, calls, ends. -/
section
variable {p : Program} {l : Launch} {e : Env} {R : Room} {s : State} {m : MethodId} {args : Array Value} {below : List Frame} {meth : Method} {c : Code} {H : Heap} {locs : List Loc} {cells slots : Nat} {Q : State → Prop}
variable {cc : ByteArray} {pc : Nat} {ls : Array Slot} {rest st0 : List Value} {Y : gY} {S : gS} {i j : gI} {t : Nat}
theorem g_iaload (hx : p.tables.exec = Jvm.exec) (hb : c.code = cc) (hK : va_K (gDd Y) gCl (gTys Y) s) (hP : gWd Y S H) (hi : gis Y gt_int i) {x : Int32} (hin : vp_in x (gLn Y i)) (hdg : decode cc pc = .ok (.iaload, 1))
    (kk : W p l e R s m args below meth c H locs cells slots Q (F0 m (pc + 1) ls (.int (S.1 i x.toNatClampNeg) :: rest))) : W p l e R s m args below meth c H locs cells slots Q (F0 m pc ls (.int x :: .ref (gad Y i) :: rest)) := by
  obtain ⟨q0, -, h1⟩ := gWs_at S hi.2
  rw [gce_int hi.1] at h1
  exact va_iald hx hb hK hP q0 0 h1 rfl hin hdg kk
theorem g_baload (hx : p.tables.exec = Jvm.exec) (hb : c.code = cc) (hK : va_K (gDd Y) gCl (gTys Y) s) (hP : gWd Y S H) (hi : gis Y gt_byte i) {x : Int32} (hin : vp_in x (gLn Y i)) (hdg : decode cc pc = .ok (.baload, 1))
    (kk : W p l e R s m args below meth c H locs cells slots Q (F0 m (pc + 1) ls (.int (S.1 i x.toNatClampNeg) :: rest))) : W p l e R s m args below meth c H locs cells slots Q (F0 m pc ls (.int x :: .ref (gad Y i) :: rest)) := by
  obtain ⟨q0, -, h1⟩ := gWs_at S hi.2
  rw [gce_byte hi.1] at h1
  exact va_bald hx hb hK hP q0 1 h1 rfl hin hdg kk
theorem g_iastore (hx : p.tables.exec = Jvm.exec) (hb : c.code = cc) (hK : va_K (gDd Y) gCl (gTys Y) s) (hJ : gInj Y) (hP : gWd Y S H) (hS : va_S (gA Y s.heap.size) s.heap H locs) (hi : gis Y gt_int i) {x v : Int32} (hin : vp_in x (gLn Y i)) (hdg : decode cc pc = .ok (.iastore, 1))
    (kk : ∀ (S' : gS), S' = gset S i x.toNatClampNeg v → ∀ (H1 : Heap) (locs1 : List Loc), gWd Y S' H1 → va_S (gA Y s.heap.size) s.heap H1 locs1 → W p l e R s m args below meth c H1 locs1 cells slots Q (F0 m (pc + 1) ls rest)) : W p l e R s m args below meth c H locs cells slots Q (F0 m pc ls (.int v :: .int x :: .ref (gad Y i) :: rest)) := by
  obtain ⟨q0, h0, h1⟩ := gWs_at S hi.2
  rw [gce_int hi.1] at h1
  exact va_iast hx hb hK hP (gD hJ) hS q0 0 h1 rfl hin hdg (fun H1 locs1 hP1 _ hS1 => kk _ rfl H1 locs1 (gWd_set hJ h0 (by rw [gce_int hi.1, gset_u]) gce_gset hP1) hS1)
theorem g_bastore (hx : p.tables.exec = Jvm.exec) (hb : c.code = cc) (hK : va_K (gDd Y) gCl (gTys Y) s) (hJ : gInj Y) (hP : gWd Y S H) (hS : va_S (gA Y s.heap.size) s.heap H locs) (hi : gis Y gt_byte i) {x v : Int32} (hin : vp_in x (gLn Y i)) (hdg : decode cc pc = .ok (.bastore, 1))
    (kk : ∀ (S' : gS), S' = gset S i x.toNatClampNeg (vp_nar .byte v) → ∀ (H1 : Heap) (locs1 : List Loc), gWd Y S' H1 → va_S (gA Y s.heap.size) s.heap H1 locs1 → W p l e R s m args below meth c H1 locs1 cells slots Q (F0 m (pc + 1) ls rest)) : W p l e R s m args below meth c H locs cells slots Q (F0 m pc ls (.int v :: .int x :: .ref (gad Y i) :: rest)) := by
  obtain ⟨q0, h0, h1⟩ := gWs_at S hi.2
  rw [gce_byte hi.1] at h1
  exact va_bast hx hb hK hP (gD hJ) hS q0 1 h1 rfl hin hdg (fun H1 locs1 hP1 _ hS1 => kk _ rfl H1 locs1 (gWd_set hJ h0 (by rw [gce_byte hi.1, gset_u]) gce_gset hP1) hS1)
theorem g_alenI (hx : p.tables.exec = Jvm.exec) (hb : c.code = cc) (hK : va_K (gDd Y) gCl (gTys Y) s) (hP : gWd Y S H) (hi : gis Y gt_int i) (hdg : decode cc pc = .ok (.arraylength, 1))
    (kk : W p l e R s m args below meth c H locs cells slots Q (F0 m (pc + 1) ls (.int (Int32.ofNat (gLn Y i)) :: rest))) : W p l e R s m args below meth c H locs cells slots Q (F0 m pc ls (.ref (gad Y i) :: rest)) := by
  obtain ⟨q0, -, h1⟩ := gWs_at S hi.2
  rw [gce_int hi.1] at h1
  exact va_alen hx hb hK hP q0 0 h1 rfl rfl hdg kk
theorem g_alenB (hx : p.tables.exec = Jvm.exec) (hb : c.code = cc) (hK : va_K (gDd Y) gCl (gTys Y) s) (hP : gWd Y S H) (hi : gis Y gt_byte i) (hdg : decode cc pc = .ok (.arraylength, 1))
    (kk : W p l e R s m args below meth c H locs cells slots Q (F0 m (pc + 1) ls (.int (Int32.ofNat (gLn Y i)) :: rest))) : W p l e R s m args below meth c H locs cells slots Q (F0 m pc ls (.ref (gad Y i) :: rest)) := by
  obtain ⟨q0, -, h1⟩ := gWs_at S hi.2
  rw [gce_byte hi.1] at h1
  exact va_alen hx hb hK hP q0 1 h1 rfl rfl hdg kk
theorem g_copyB (hx : p.tables.exec = Jvm.exec) (hb : c.code = cc) (hml : c.maxLocals = ls.size) {own : String} {index : Nat} (hown : s.vm.findClass own = some m.cls) (hlink : (Cond.methodLink own index arraycopyName).before args s = true) (hnat : (Cond.native arraycopyName).before args s = true) (hstat : (Cond.static arraycopyName).before args s = true) (hini : (Cond.initialized "java/lang/System").before args s = true)
    (hK : va_K (gDd Y) gCl (gTys Y) s) (hJ : gInj Y) (hP : gWd Y S H) (hS : va_S (gA Y s.heap.size) s.heap H locs) (hi : gis Y gt_byte i) (hj : gis Y gt_byte j)
    {sp dp n : Int32} (h1 : ¬ sp < 0) (h2 : ¬ dp < 0) (h3 : ¬ n < 0) (h4 : sp.toNatClampNeg + n.toNatClampNeg ≤ gLn Y i) (h5 : dp.toNatClampNeg + n.toNatClampNeg ≤ gLn Y j) (hfit : ∀ a, a < n.toNatClampNeg → fits .byte (.int (S.1 i (sp.toNatClampNeg + a))) = true)
    (hframes : 1 ≤ R.frames) (hlocals : (rest.map fun v => v.category).sum + (nativeFrameWords "java/lang/System" "arraycopy" 5 + 11) ≤ R.locals) (hdg : decode cc pc = .ok (.invokestatic index, 3))
    (kk : ∀ (S' : gS), S' = gcpy S i sp.toNatClampNeg j dp.toNatClampNeg n.toNatClampNeg → ∀ (H1 : Heap) (locs1 : List Loc), gWd Y S' H1 → va_S (gA Y s.heap.size) s.heap H1 locs1 → W p l e R s m args below meth c H1 locs1 cells slots Q (F0 m (pc + 3) ls rest)) : W p l e R s m args below meth c H locs cells slots Q (F0 m pc ls (.int n :: .int dp :: .ref (gad Y j) :: .int sp :: .ref (gad Y i) :: rest)) := by
  obtain ⟨q0, -, r0⟩ := gWs_at S hi.2
  obtain ⟨q1, z1, r1⟩ := gWs_at S hj.2
  rw [gce_byte hi.1] at r0
  rw [gce_byte hj.1] at r1
  refine va_copyi hx hb hml hown hlink hnat hstat hini hK hP (gD hJ) hS q0 q1 1 1 r0 r1 rfl rfl rfl h1 h2 h3 h4 h5 hfit hframes hlocals hdg (fun H1 locs1 hP1 _ hS1 => kk _ rfl H1 locs1 (gWd_set hJ z1 ?_ gce_gcpy hP1) hS1)
  rw [gce_byte hj.1]
  have : (gcpy S i sp.toNatClampNeg j dp.toNatClampNeg n.toNatClampNeg).1 j = va_cpy (S.1 i) (S.1 j) sp.toNatClampNeg dp.toNatClampNeg n.toNatClampNeg := by
    funext k
    show (if j = j then _ else _) = _
    rw [if_pos rfl]
  rw [this]
/-- what a method finds at its start -/
def gPre (Y : gY) (av : List Value) (S : gS) (sz : Nat) (P : Prop) : Array Value → State → Prop := va_Pc av (fun U => U.heap.size = sz ∧ gWd Y S U.heap ∧ va_K (gDd Y) gCl (gTys Y) U ∧ gSt Y sz U ∧ P)
def gB (Y : gY) (S : gS) (t : State) : Prop := gWd Y S t.heap ∧ va_K (gDd Y) gCl (gTys Y) t
theorem gPre_blind {Y : gY} {av : List Value} {S : gS} {sz : Nat} {P : Prop} : FrameBlind (gPre Y av S sz P) := fun a U g mk q => by
  obtain ⟨q0, q1, qP, qK, qS, qW⟩ := q
  exact ⟨q0, q1, qP, va_K.moved (u := U) (U := U.calling g mk a) (Vm.Alike.refl U.vm) qK, gSt_calling qS, qW⟩
theorem g_calli {post : Int32 → gS → Prop} {a : Array Value} (hr : va_Run p l e R s m args below meth c H locs cells slots 0 0 (F0 m pc ls st0) rest (va_Qi post (gB Y) (gA Y H.size) a) (gA Y H.size)) (hS : va_S (gA Y s.heap.size) s.heap H locs)
    (kk : ∀ (r : Int32) (S1 : gS) (H1 : Heap) (locs1 : List Loc), post r S1 → gWd Y S1 H1 → va_S (gA Y s.heap.size) s.heap H1 locs1 → W p l e R s m args below meth c H1 locs1 cells slots Q (F0 m (pc + 3) ls (.int r :: rest))) : W p l e R s m args below meth c H locs cells slots Q (F0 m pc ls st0) :=
  va_calli hr hS (fun q _ h => gA_call hS q h) (gA_call hS) (fun r u t H1 locs1 ht _ hp hB _ _ hS1 => kk r u H1 locs1 hp (by rw [← ht]; exact hB.1) hS1)
theorem g_calll {post : Int64 → gS → Prop} {a : Array Value} (hr : va_Run p l e R s m args below meth c H locs cells slots 0 0 (F0 m pc ls st0) rest (va_Ql post (gB Y) (gA Y H.size) a) (gA Y H.size)) (hS : va_S (gA Y s.heap.size) s.heap H locs)
    (kk : ∀ (r : Int64) (S1 : gS) (H1 : Heap) (locs1 : List Loc), post r S1 → gWd Y S1 H1 → va_S (gA Y s.heap.size) s.heap H1 locs1 → W p l e R s m args below meth c H1 locs1 cells slots Q (F0 m (pc + 3) ls (.long r :: rest))) : W p l e R s m args below meth c H locs cells slots Q (F0 m pc ls st0) :=
  va_calll hr hS (fun q _ h => gA_call hS q h) (gA_call hS) (fun r u t H1 locs1 ht _ hp hB _ _ hS1 => kk r u H1 locs1 hp (by rw [← ht]; exact hB.1) hS1)
theorem g_callv {post : gS → Prop} {a : Array Value} (hr : va_Run p l e R s m args below meth c H locs cells slots 0 0 (F0 m pc ls st0) rest (va_Qv post (gB Y) (gA Y H.size) a) (gA Y H.size)) (hS : va_S (gA Y s.heap.size) s.heap H locs)
    (kk : ∀ (S1 : gS) (H1 : Heap) (locs1 : List Loc), post S1 → gWd Y S1 H1 → va_S (gA Y s.heap.size) s.heap H1 locs1 → W p l e R s m args below meth c H1 locs1 cells slots Q (F0 m (pc + 3) ls rest)) : W p l e R s m args below meth c H locs cells slots Q (F0 m pc ls st0) :=
  va_callv hr hS (fun q _ h => gA_call hS q h) (gA_call hS) (fun u t H1 locs1 ht _ hp hB _ _ hS1 => kk u H1 locs1 hp (by rw [← ht]; exact hB.1) hS1)
end
end
section
/-! The frame of a method's rows: what holds all along, its end, its calls. -/
abbrev gRm (f lo : Nat) : Room := { frames := f, cells := 0, slots := 0, locals := lo }
abbrev gRmX (f lo : Nat) : Room := { frames := f, cells := 1, slots := 6, locals := lo }
def gCx (p : Program) (s : State) (m : MethodId) (args : Array Value) (meth : Method) (c : Code) (Y : gY) (own : String) (cc : ByteArray) (nL : Nat) (ret : Option FieldType) (Ts : List Cond) : Prop :=
  p.tables.exec = Jvm.exec ∧ c.code = cc ∧ c.maxLocals = nL ∧ s.vm.findClass own = some m.cls ∧ (∀ w ∈ Ts, w.before args s = true) ∧ meth.sig.returnType = ret ∧ meth.locks = false ∧ va_K (gDd Y) gCl (gTys Y) s ∧ gOK Y ∧ gSt Y s.heap.size s
theorem gG_V {x cw : Cond} {own C : String} {idx : Nat} {y : MethodName} (h1 : Cond.methodLink own idx y ∈ gTb) (h2 : Cond.instanceMethod y ∈ gTb) (h3 : Cond.selects C y y ∈ gTb) (h4 : Cond.initialized C ∈ gTb) (h5 : cw ∈ gTb) : GoodIn (x :: gTb) (wsV own idx C y (cw :: gTb)) := gTb_good (fun w hw => by
  unfold wsV at hw
  rcases List.mem_append.mp hw with h | h
  · simp only [List.mem_cons, List.not_mem_nil, or_false] at h
    rcases h with rfl | rfl | rfl | rfl
    · exact h1
    · exact h2
    · exact h3
    · exact h4
  · rcases List.mem_cons.mp h with rfl | h
    · exact h5
    · exact h)
theorem gG_S {x cw : Cond} {own : String} {idx : Nat} {y : MethodName} (h1 : Cond.methodLink own idx y ∈ gTb) (h2 : Cond.static y ∈ gTb) (h4 : Cond.initialized y.cls ∈ gTb) (h5 : cw ∈ gTb) : GoodIn (x :: gTb) (va_wsS own idx y (cw :: gTb)) := gTb_good (fun w hw => by
  unfold va_wsS at hw
  rcases List.mem_append.mp hw with h | h
  · simp only [List.mem_cons, List.not_mem_nil, or_false] at h
    rcases h with rfl | rfl | rfl
    · exact h1
    · exact h2
    · exact h4
  · rcases List.mem_cons.mp h with rfl | h
    · exact h5
    · exact h)
theorem gG_N {x cw : Cond} (h5 : cw ∈ gTb) : GoodIn (x :: gTb) (cw :: gTb) := gTb_good (fun w hw => by
  rcases List.mem_cons.mp hw with rfl | h
  · exact h5
  · exact h)
section
variable {p : Program} {l : Launch} {e : Env} {R : Room} {s : State} {m : MethodId} {args : Array Value} {below : List Frame} {meth : Method} {c : Code} {H : Heap} {locs : List Loc} {cells slots : Nat} {Q : State → Prop}
variable {cc : ByteArray} {pc : Nat} {ls : Array Slot} {rest st0 : List Value} {Y : gY} {S : gS} {i j : gI} {t : Nat}
theorem g_pre {av : List Value} {P : Prop} (hK : va_K (gDd Y) gCl (gTys Y) s) (hSt : gSt Y s.heap.size s) (hS : va_S (gA Y s.heap.size) s.heap H locs) (hP : gWd Y S H) (hw : P) : ∀ U : State, U.heap = H → s.WarmedH U.vm → gPre Y av S H.size P av.toArray U := fun U hU hW => ⟨rfl, by rw [hU], by rw [hU]; exact hP, va_K.moved hW.alike hK, gSt_call hSt hS hU hW, hw⟩
theorem g_recv {n : Nat} (hK : va_K (gDd Y) gCl (gTys Y) s) (hP : gWd Y S H) (hi : gis Y t i) {fs : List Value} (he : gce Y S i = .inr (n, fs)) {q : vw_C} (hc : gCl[n]? = some q) : ∃ cell : Cell, H[gad Y i]? = some cell ∧ cell.vm.isStatics = false ∧ s.vm.findClass q.1 = some cell.cls := by
  obtain ⟨q0, -, h1⟩ := gWs_at S hi.2
  rw [he] at h1
  exact va_recv hK hP hc h1
theorem g_aaload (hx : p.tables.exec = Jvm.exec) (hb : c.code = cc) (hK : va_K (gDd Y) gCl (gTys Y) s) (hP : gWd Y S H) (hi : gis Y gt_file i) {x : Int32} (hin : vp_in x (gLn Y i)) (hdg : decode cc pc = .ok (.aaload, 1))
    (kk : W p l e R s m args below meth c H locs cells slots Q (F0 m (pc + 1) ls (.ref (gad Y (grf i x.toNatClampNeg)) :: rest))) : W p l e R s m args below meth c H locs cells slots Q (F0 m pc ls (.int x :: .ref (gad Y i) :: rest)) := by
  obtain ⟨q0, -, h1⟩ := gWs_at S hi.2
  rw [gce_file hi.1] at h1
  exact va_aldq hx hb hK hP q0 4 h1 rfl hin hdg kk
theorem g_sum (hx : p.tables.exec = Jvm.exec) (hb : c.code = cc) (hown : s.vm.findClass "LogDisk" = some m.cls) (hSt : gSt Y s.heap.size s) (hS : va_S (gA Y s.heap.size) s.heap H locs) {index : Nat} (hlink : (Cond.fieldLink "LogDisk" index "LogDisk" "SUM_OF_HALF" "[I").before args s = true) (hdg : decode cc pc = .ok (.getstatic index, 3))
    (kk : ∀ t : Nat, va_T .int t 16 (fun j => .int (gSum j)) (gA Y s.heap.size) s s.heap → W p l e R s m args below meth c H locs cells slots Q (F0 m (pc + 3) ls (.ref t :: rest))) : W p l e R s m args below meth c H locs cells slots Q (F0 m pc ls rest) := by
  obtain ⟨-, ⟨t, hz, ht⟩, -⟩ := hSt
  exact va_gets hx hb hz hS hown hlink (fun _ h => h) hdg (kk t ht)
theorem g_sumAt (hx : p.tables.exec = Jvm.exec) (hb : c.code = cc) {t : Nat} (hT : va_T .int t 16 (fun j => .int (gSum j)) (gA Y s.heap.size) s s.heap) (hS : va_S (gA Y s.heap.size) s.heap H locs) {x : Int32} (hin : vp_in x 16) (hdg : decode cc pc = .ok (.iaload, 1))
    (kk : W p l e R s m args below meth c H locs cells slots Q (F0 m (pc + 1) ls (.int (gSum x.toNatClampNeg) :: rest))) : W p l e R s m args below meth c H locs cells slots Q (F0 m pc ls (.int x :: .ref t :: rest)) := va_ti hx hb hT hS hin rfl hdg kk
theorem g_zaload (hx : p.tables.exec = Jvm.exec) (hb : c.code = cc) (hK : va_K (gDd Y) gCl (gTys Y) s) (hP : gWd Y S H) (hi : gis Y gt_bool i) {x : Int32} (hin : vp_in x (gLn Y i)) (hdg : decode cc pc = .ok (.baload, 1))
    (kk : W p l e R s m args below meth c H locs cells slots Q (F0 m (pc + 1) ls (.int (S.1 i x.toNatClampNeg) :: rest))) : W p l e R s m args below meth c H locs cells slots Q (F0 m pc ls (.int x :: .ref (gad Y i) :: rest)) := by
  obtain ⟨q0, -, h1⟩ := gWs_at S hi.2
  rw [gce_bool hi.1] at h1
  exact va_zald hx hb hK hP q0 2 h1 rfl hin hdg kk
theorem g_zastore (hx : p.tables.exec = Jvm.exec) (hb : c.code = cc) (hK : va_K (gDd Y) gCl (gTys Y) s) (hJ : gInj Y) (hP : gWd Y S H) (hS : va_S (gA Y s.heap.size) s.heap H locs) (hi : gis Y gt_bool i) {x v : Int32} (hin : vp_in x (gLn Y i)) (hdg : decode cc pc = .ok (.bastore, 1))
    (kk : ∀ (S' : gS), S' = gset S i x.toNatClampNeg (vp_nar .boolean v) → ∀ (H1 : Heap) (locs1 : List Loc), gWd Y S' H1 → va_S (gA Y s.heap.size) s.heap H1 locs1 → W p l e R s m args below meth c H1 locs1 cells slots Q (F0 m (pc + 1) ls rest)) : W p l e R s m args below meth c H locs cells slots Q (F0 m pc ls (.int v :: .int x :: .ref (gad Y i) :: rest)) := by
  obtain ⟨q0, h0, h1⟩ := gWs_at S hi.2
  rw [gce_bool hi.1] at h1
  exact va_zast hx hb hK hP (gD hJ) hS q0 2 h1 rfl hin hdg (fun H1 locs1 hP1 _ hS1 => kk _ rfl H1 locs1 (gWd_set hJ h0 (by rw [gce_bool hi.1, gset_u]) gce_gset hP1) hS1)
theorem gsetL_u (S : gS) (i : gI) (k : Nat) (v : Int64) : (gsetL S i k v).2 i = vp_updL (S.2 i) k v := by
  funext n
  show (if i = i ∧ n = k then v else S.2 i n) = _
  by_cases h : n = k
  · rw [if_pos ⟨rfl, h⟩, h, pk_uLs]
  · rw [if_neg (fun z => h z.2), pk_uLn h]
theorem g_laload (hx : p.tables.exec = Jvm.exec) (hb : c.code = cc) (hK : va_K (gDd Y) gCl (gTys Y) s) (hP : gWd Y S H) (hi : gis Y gt_long i) {x : Int32} (hin : vp_in x (gLn Y i)) (hdg : decode cc pc = .ok (.laload, 1))
    (kk : W p l e R s m args below meth c H locs cells slots Q (F0 m (pc + 1) ls (.long (S.2 i x.toNatClampNeg) :: rest))) : W p l e R s m args below meth c H locs cells slots Q (F0 m pc ls (.int x :: .ref (gad Y i) :: rest)) := by
  obtain ⟨q0, -, h1⟩ := gWs_at S hi.2
  rw [gce_long hi.1] at h1
  exact va_lald hx hb hK hP q0 3 h1 rfl hin hdg kk
theorem g_lastore (hx : p.tables.exec = Jvm.exec) (hb : c.code = cc) (hK : va_K (gDd Y) gCl (gTys Y) s) (hJ : gInj Y) (hP : gWd Y S H) (hS : va_S (gA Y s.heap.size) s.heap H locs) (hi : gis Y gt_long i) {x : Int32} {v : Int64} (hin : vp_in x (gLn Y i)) (hdg : decode cc pc = .ok (.lastore, 1))
    (kk : ∀ (S' : gS), S' = gsetL S i x.toNatClampNeg v → ∀ (H1 : Heap) (locs1 : List Loc), gWd Y S' H1 → va_S (gA Y s.heap.size) s.heap H1 locs1 → W p l e R s m args below meth c H1 locs1 cells slots Q (F0 m (pc + 1) ls rest)) : W p l e R s m args below meth c H locs cells slots Q (F0 m pc ls (.long v :: .int x :: .ref (gad Y i) :: rest)) := by
  obtain ⟨q0, h0, h1⟩ := gWs_at S hi.2
  rw [gce_long hi.1] at h1
  exact va_last hx hb hK hP (gD hJ) hS q0 3 h1 rfl hin hdg (fun H1 locs1 hP1 _ hS1 => kk _ rfl H1 locs1 (gWd_set hJ h0 (by rw [gce_long hi.1, gsetL_u]) gce_gsetL hP1) hS1)
end
theorem g_nb {v : Int32} (h : v = 0 ∨ v = 1) : narrow .boolean (.int v) = .int v := by rcases h with rfl | rfl <;> rfl
theorem g_fb {v : Int32} (h : v = 0 ∨ v = 1) : fits .boolean (.int v) = true := by rcases h with rfl | rfl <;> rfl
abbrev ju_lshr (x : Int64) (y : Int32) : Int64 := x >>> (y.toInt64 &&& 63)
theorem g_sw_0_10 (x : Int32) : (x.toInt < 0 ∨ 10 < x.toInt) ∨ x = 0 ∨ x = 1 ∨ x = 2 ∨ x = 3 ∨ x = 4 ∨ x = 5 ∨ x = 6 ∨ x = 7 ∨ x = 8 ∨ x = 9 ∨ x = 10 := by
  have key : ∀ k : Int32, x.toInt = k.toInt → x = k := fun k h => Int32.toInt_inj.mp h
  by_cases h : x.toInt < 0 ∨ 10 < x.toInt
  · exact Or.inl h
  · refine Or.inr ?_
    have : x.toInt = 0 ∨ x.toInt = 1 ∨ x.toInt = 2 ∨ x.toInt = 3 ∨ x.toInt = 4 ∨ x.toInt = 5 ∨ x.toInt = 6 ∨ x.toInt = 7 ∨ x.toInt = 8 ∨ x.toInt = 9 ∨ x.toInt = 10 := by omega
    rcases this with h | h | h | h | h | h | h | h | h | h | h
    · exact Or.inl (key 0 h)
    · exact Or.inr (Or.inl (key 1 h))
    · exact Or.inr (Or.inr (Or.inl (key 2 h)))
    · exact Or.inr (Or.inr (Or.inr (Or.inl (key 3 h))))
    · exact Or.inr (Or.inr (Or.inr (Or.inr (Or.inl (key 4 h)))))
    · exact Or.inr (Or.inr (Or.inr (Or.inr (Or.inr (Or.inl (key 5 h))))))
    · exact Or.inr (Or.inr (Or.inr (Or.inr (Or.inr (Or.inr (Or.inl (key 6 h)))))))
    · exact Or.inr (Or.inr (Or.inr (Or.inr (Or.inr (Or.inr (Or.inr (Or.inl (key 7 h))))))))
    · exact Or.inr (Or.inr (Or.inr (Or.inr (Or.inr (Or.inr (Or.inr (Or.inr (Or.inl (key 8 h)))))))))
    · exact Or.inr (Or.inr (Or.inr (Or.inr (Or.inr (Or.inr (Or.inr (Or.inr (Or.inr (Or.inl (key 9 h))))))))))
    · exact Or.inr (Or.inr (Or.inr (Or.inr (Or.inr (Or.inr (Or.inr (Or.inr (Or.inr (Or.inr (key 10 h))))))))))
theorem g_sw_0_4 (x : Int32) : (x.toInt < 0 ∨ 4 < x.toInt) ∨ x = 0 ∨ x = 1 ∨ x = 2 ∨ x = 3 ∨ x = 4 := by
  have key : ∀ k : Int32, x.toInt = k.toInt → x = k := fun k h => Int32.toInt_inj.mp h
  by_cases h : x.toInt < 0 ∨ 4 < x.toInt
  · exact Or.inl h
  · refine Or.inr ?_
    have : x.toInt = 0 ∨ x.toInt = 1 ∨ x.toInt = 2 ∨ x.toInt = 3 ∨ x.toInt = 4 := by omega
    rcases this with h | h | h | h | h
    · exact Or.inl (key 0 h)
    · exact Or.inr (Or.inl (key 1 h))
    · exact Or.inr (Or.inr (Or.inl (key 2 h)))
    · exact Or.inr (Or.inr (Or.inr (Or.inl (key 3 h))))
    · exact Or.inr (Or.inr (Or.inr (Or.inr (key 4 h))))
theorem g_sw_0_1 (x : Int32) : (x.toInt < 0 ∨ 1 < x.toInt) ∨ x = 0 ∨ x = 1 := by
  have key : ∀ k : Int32, x.toInt = k.toInt → x = k := fun k h => Int32.toInt_inj.mp h
  by_cases h : x.toInt < 0 ∨ 1 < x.toInt
  · exact Or.inl h
  · refine Or.inr ?_
    have : x.toInt = 0 ∨ x.toInt = 1 := by omega
    rcases this with h | h
    · exact Or.inl (key 0 h)
    · exact Or.inr (key 1 h)
/-! A cell behind a write. -/
theorem gp_Content_there {Y : gY} {S : gS} {i : gI} {v : Int32} (h : gT i = 0) : gce Y (gset S i 1 v) i = .inr (0, (gf_Content Y S i).set 1 (.int v)) := by
  rw [gce_Content h]
  simp [gf_Content, gset]
theorem gp_Content_size {Y : gY} {S : gS} {i : gI} {v : Int32} (h : gT i = 0) : gce Y (gset S i 2 v) i = .inr (0, (gf_Content Y S i).set 2 (.int v)) := by
  rw [gce_Content h]
  simp [gf_Content, gset]
theorem gp_DiskFile_low {Y : gY} {S : gS} {i : gI} {v : Int32} (h : gT i = 1) : gce Y (gset S i 3 v) i = .inr (1, (gf_DiskFile Y S i).set 3 (.int v)) := by
  rw [gce_DiskFile h]
  simp [gf_DiskFile, gset]
theorem gp_Frame_size {Y : gY} {S : gS} {i : gI} {v : Int32} (h : gT i = 3) : gce Y (gset S i 1 v) i = .inr (3, (gf_Frame Y S i).set 1 (.int v)) := by
  rw [gce_Frame h]
  simp [gf_Frame, gset]
theorem gp_Pages_unusedCount {Y : gY} {S : gS} {i : gI} {v : Int32} (h : gT i = 4) : gce Y (gset S i 3 v) i = .inr (4, (gf_Pages Y S i).set 3 (.int v)) := by
  rw [gce_Pages h]
  simp [gf_Pages, gset]
theorem gp_Segments_count {Y : gY} {S : gS} {i : gI} {v : Int32} (h : gT i = 5) : gce Y (gset S i 2 v) i = .inr (5, (gf_Segments Y S i).set 2 (.int v)) := by
  rw [gce_Segments h]
  simp [gf_Segments, gset]
theorem gp_Snapshot_file {Y : gY} {S : gS} {i : gI} {v : Int32} (h : gT i = 6) : gce Y (gset S i 0 v) i = .inr (6, (gf_Snapshot Y S i).set 0 (.int v)) := by
  rw [gce_Snapshot h]
  simp [gf_Snapshot, gset]
theorem gp_Snapshot_base {Y : gY} {S : gS} {i : gI} {v : Int32} (h : gT i = 6) : gce Y (gset S i 1 v) i = .inr (6, (gf_Snapshot Y S i).set 1 (.int v)) := by
  rw [gce_Snapshot h]
  simp [gf_Snapshot, gset]
theorem gp_Snapshot_term {Y : gY} {S : gS} {i : gI} {v : Int32} (h : gT i = 6) : gce Y (gset S i 2 v) i = .inr (6, (gf_Snapshot Y S i).set 2 (.int v)) := by
  rw [gce_Snapshot h]
  simp [gf_Snapshot, gset]
theorem gp_Snapshot_code {Y : gY} {S : gS} {i : gI} {v : Int32} (h : gT i = 6) : gce Y (gset S i 3 v) i = .inr (6, (gf_Snapshot Y S i).set 3 (.int v)) := by
  rw [gce_Snapshot h]
  simp [gf_Snapshot, gset]
theorem gp_Tape_size {Y : gY} {S : gS} {i : gI} {v : Int32} (h : gT i = 7) : gce Y (gset S i 1 v) i = .inr (7, (gf_Tape Y S i).set 1 (.int v)) := by
  rw [gce_Tape h]
  simp [gf_Tape, gset]
theorem gp_Vote_term {Y : gY} {S : gS} {i : gI} {v : Int32} (h : gT i = 8) : gce Y (gset S i 0 v) i = .inr (8, (gf_Vote Y S i).set 0 (.int v)) := by
  rw [gce_Vote h]
  simp [gf_Vote, gset]
theorem gp_Vote_voted {Y : gY} {S : gS} {i : gI} {v : Int32} (h : gT i = 8) : gce Y (gset S i 1 v) i = .inr (8, (gf_Vote Y S i).set 1 (.int v)) := by
  rw [gce_Vote h]
  simp [gf_Vote, gset]
theorem gp_Vote_times {Y : gY} {S : gS} {i : gI} {v : Int64} (h : gT i = 8) : gce Y (gsetL S i 2 v) i = .inr (8, (gf_Vote Y S i).set 2 (.long v)) := by
  rw [gce_Vote h]
  simp [gf_Vote, gsetL]
theorem gp_Vote_file {Y : gY} {S : gS} {i : gI} {v : Int32} (h : gT i = 8) : gce Y (gset S i 3 v) i = .inr (8, (gf_Vote Y S i).set 3 (.int v)) := by
  rw [gce_Vote h]
  simp [gf_Vote, gset]
theorem gp_Vote_fresh {Y : gY} {S : gS} {i : gI} {v : Int32} (h : gT i = 8) : gce Y (gset S i 4 v) i = .inr (8, (gf_Vote Y S i).set 4 (.int v)) := by
  rw [gce_Vote h]
  simp [gf_Vote, gset]
theorem gp_LogDisk_firstCode {Y : gY} {S : gS} {i : gI} {v : Int32} (h : gT i = 9) : gce Y (gset S i 9 v) i = .inr (9, (gf_LogDisk Y S i).set 9 (.int v)) := by
  rw [gce_LogDisk h]
  simp [gf_LogDisk, gset]
theorem gp_LogDisk_last {Y : gY} {S : gS} {i : gI} {v : Int32} (h : gT i = 9) : gce Y (gset S i 10 v) i = .inr (9, (gf_LogDisk Y S i).set 10 (.int v)) := by
  rw [gce_LogDisk h]
  simp [gf_LogDisk, gset]
theorem gp_LogDisk_dirty {Y : gY} {S : gS} {i : gI} {v : Int32} (h : gT i = 9) : gce Y (gset S i 11 v) i = .inr (9, (gf_LogDisk Y S i).set 11 (.int v)) := by
  rw [gce_LogDisk h]
  simp [gf_LogDisk, gset]
theorem gp_Mo_thrown {Y : gY} {S : gS} {i : gI} {v : Int32} (h : gT i = 10) : gce Y (gset S i 0 v) i = .inr (10, (gf_Mo Y S i).set 0 (.int v)) := by
  rw [gce_Mo h]
  simp [gf_Mo, gset]
theorem gp_Mo_limit {Y : gY} {S : gS} {i : gI} {v : Int32} (h : gT i = 10) : gce Y (gset S i 1 v) i = .inr (10, (gf_Mo Y S i).set 1 (.int v)) := by
  rw [gce_Mo h]
  simp [gf_Mo, gset]
theorem gp_Mo_firstCode {Y : gY} {S : gS} {i : gI} {v : Int32} (h : gT i = 10) : gce Y (gset S i 2 v) i = .inr (10, (gf_Mo Y S i).set 2 (.int v)) := by
  rw [gce_Mo h]
  simp [gf_Mo, gset]
theorem gp_Mo_frames {Y : gY} {S : gS} {i : gI} {v : Int32} (h : gT i = 10) : gce Y (gset S i 3 v) i = .inr (10, (gf_Mo Y S i).set 3 (.int v)) := by
  rw [gce_Mo h]
  simp [gf_Mo, gset]
theorem gp_Mo_used {Y : gY} {S : gS} {i : gI} {v : Int32} (h : gT i = 10) : gce Y (gset S i 11 v) i = .inr (10, (gf_Mo Y S i).set 11 (.int v)) := by
  rw [gce_Mo h]
  simp [gf_Mo, gset]
theorem gp_Mo_term {Y : gY} {S : gS} {i : gI} {v : Int32} (h : gT i = 10) : gce Y (gset S i 19 v) i = .inr (10, (gf_Mo Y S i).set 19 (.int v)) := by
  rw [gce_Mo h]
  simp [gf_Mo, gset]
theorem gp_Mo_voted {Y : gY} {S : gS} {i : gI} {v : Int32} (h : gT i = 10) : gce Y (gset S i 20 v) i = .inr (10, (gf_Mo Y S i).set 20 (.int v)) := by
  rw [gce_Mo h]
  simp [gf_Mo, gset]
theorem gp_Mo_times {Y : gY} {S : gS} {i : gI} {v : Int32} (h : gT i = 10) : gce Y (gset S i 21 v) i = .inr (10, (gf_Mo Y S i).set 21 (.int v)) := by
  rw [gce_Mo h]
  simp [gf_Mo, gset]
theorem gp_Mo_slot {Y : gY} {S : gS} {i : gI} {v : Int32} (h : gT i = 10) : gce Y (gset S i 22 v) i = .inr (10, (gf_Mo Y S i).set 22 (.int v)) := by
  rw [gce_Mo h]
  simp [gf_Mo, gset]
theorem gp_Mo_base {Y : gY} {S : gS} {i : gI} {v : Int32} (h : gT i = 10) : gce Y (gset S i 23 v) i = .inr (10, (gf_Mo Y S i).set 23 (.int v)) := by
  rw [gce_Mo h]
  simp [gf_Mo, gset]
theorem gp_Mo_baseTerm {Y : gY} {S : gS} {i : gI} {v : Int32} (h : gT i = 10) : gce Y (gset S i 24 v) i = .inr (10, (gf_Mo Y S i).set 24 (.int v)) := by
  rw [gce_Mo h]
  simp [gf_Mo, gset]
theorem gp_Mo_code {Y : gY} {S : gS} {i : gI} {v : Int32} (h : gT i = 10) : gce Y (gset S i 25 v) i = .inr (10, (gf_Mo Y S i).set 25 (.int v)) := by
  rw [gce_Mo h]
  simp [gf_Mo, gset]
theorem gp_Mo_snapshot {Y : gY} {S : gS} {i : gI} {v : Int32} (h : gT i = 10) : gce Y (gset S i 26 v) i = .inr (10, (gf_Mo Y S i).set 26 (.int v)) := by
  rw [gce_Mo h]
  simp [gf_Mo, gset]
theorem gp_Mo_last {Y : gY} {S : gS} {i : gI} {v : Int32} (h : gT i = 10) : gce Y (gset S i 27 v) i = .inr (10, (gf_Mo Y S i).set 27 (.int v)) := by
  rw [gce_Mo h]
  simp [gf_Mo, gset]
theorem gp_Mo_slotSince {Y : gY} {S : gS} {i : gI} {v : Int32} (h : gT i = 10) : gce Y (gset S i 28 v) i = .inr (10, (gf_Mo Y S i).set 28 (.int v)) := by
  rw [gce_Mo h]
  simp [gf_Mo, gset]
theorem gp_Mo_dirty {Y : gY} {S : gS} {i : gI} {v : Int32} (h : gT i = 10) : gce Y (gset S i 29 v) i = .inr (10, (gf_Mo Y S i).set 29 (.int v)) := by
  rw [gce_Mo h]
  simp [gf_Mo, gset]
theorem gp_Mo_segments {Y : gY} {S : gS} {i : gI} {v : Int32} (h : gT i = 10) : gce Y (gset S i 30 v) i = .inr (10, (gf_Mo Y S i).set 30 (.int v)) := by
  rw [gce_Mo h]
  simp [gf_Mo, gset]
theorem gp_Mo_tape {Y : gY} {S : gS} {i : gI} {v : Int32} (h : gT i = 10) : gce Y (gset S i 33 v) i = .inr (10, (gf_Mo Y S i).set 33 (.int v)) := by
  rw [gce_Mo h]
  simp [gf_Mo, gset]
end
section
/-! Methods that return or throw, and calls of them. The thrown object's class is told by its name; the world behind is that of a state. -/
def gxQ (Y : gY) (sz : Nat) (Qc : Array Value → State → Outcome → State → Prop) (X : String → gS → Prop) : Array Value → State → Outcome → State → Prop := fun a st o t =>
  (Qc a st o t ∧ ∃ L, FrameEnd st o t L 1 6 ∧ ∀ q ∈ L, gA Y sz q.base) ∨
  ∃ (q : Addr) (E : String) (S : gS) (ce : Cell) (L : List Loc), o = .threw q ∧ X E S ∧ gWd Y S t.heap ∧ va_F (gA Y sz) st t ∧ t.heap[q]? = some ce ∧ ce.vm = .none ∧ st.vm.findClass E = some ce.cls ∧ st.WarmedH t.vm ∧ st.sameButNew ({ t with vm := st.vm } : State) L 1 6 ∧ ∀ z ∈ L, gA Y sz z.base
def gxZ (below : List Frame) (Y : gY) (Qc : Array Value → State → Outcome → State → Prop) (X : String → gS → Prop) (a : Array Value) (s : State) : State → Prop := fun t =>
  ∃ o, t.status = .running ∧ Ended t below o ∧ gxQ Y s.heap.size Qc X a s o t
abbrev gxMet (l : Launch) (y : MethodName) (ws : List Cond) (rm : Room) (Pc : Array Value → State → Prop) (Y : gY) (sz : Nat) (Qc : Array Value → State → Outcome → State → Prop) (X : String → gS → Prop) : Prop :=
  MetFree l y (headSpec ws rm) Pc (fun _ _ _ _ _ => True) (gxQ Y sz Qc X)
theorem gxQ_ends {Y : gY} {sz : Nat} {Qc : Array Value → State → Outcome → State → Prop} {X : String → gS → Prop} {a : Array Value} {st t : State} {o : Outcome} (h : gxQ Y sz Qc X a st o t) :
    ∃ L, ((∃ v, o = .returned v) ∨ ∃ q, o = .threw q) ∧ st.WarmedH t.vm ∧ st.sameButNew ({ t with vm := st.vm } : State) L 1 6 ∧ ∀ z ∈ L, gA Y sz z.base := by
  rcases h with ⟨-, L, ⟨h1, h2, h3⟩, h4⟩ | ⟨q, E, S, ce, L, h1, -, -, -, -, -, -, h2, h3, h4⟩
  · exact ⟨L, Or.inl h1, h2, h3, h4⟩
  · exact ⟨L, Or.inr ⟨q, h1⟩, h2, h3, h4⟩
section
variable {p : Program} {l : Launch} {e : Env} {R : Room} {s : State} {m : MethodId} {args : Array Value} {below : List Frame} {meth : Method} {c : Code} {U : State} {locs : List Loc} {cells slots : Nat}
/-- behind the machine's step into a callee: it comes back, or throws over the caller's frame -/
theorem gx_back {y : MethodName} {ws : List Cond} {rm : Room} {Pc : Array Value → State → Prop} {Y : gY} {sz : Nat} {Qc : Array Value → State → Outcome → State → Prop} {XX : String → gS → Prop} {bytes : ByteArray} {maxL : Nat} {ret : Option FieldType}
    (hM : gxMet l y ws rm Pc Y sz Qc XX) (hblind : FrameBlind Pc) (hfr : rm.frames + 1 ≤ R.frames) (hlo : 8 + (maxL + 11) + rm.locals ≤ R.locals)
    (hws : ∀ w ∈ ws, ∀ (a' : Array Value) (V : State), s.WarmedH V.vm → w.before a' V = true) (hcode : Cond.code y bytes maxL ret ∈ ws) (hini : ∀ (a' : Array Value) (V : State), s.WarmedH V.vm → (Cond.initialized y.cls).before a' V = true)
    {g : JFrame} {ig : Instr} {mk : MethodId} {a : Array Value}
    (X : Stand p l e R s m args below meth c U locs cells slots) (hg : g.method = m) (hsize : g.locals.size = c.maxLocals) (hdg : decode c.code g.pc = .ok (ig, 3))
    (hW : 2 * g.monitorRoom + (g.stack.map fun v => v.category).sum ≤ 8) (hn : U.methodNamed? y = some mk) (hcells : cells + rm.cells ≤ R.cells) (hslots : slots + rm.slots ≤ R.slots) (hP : Pc a U) :
    ∃ (o : Outcome) (t V : State) (L : List Loc), gxQ Y sz Qc XX a (U.calling g mk a) o t ∧ V.heap = t.heap ∧ V.vm = t.vm ∧ Stand p l e R s m args below meth c V (locs ++ L) (cells + 1) (slots + 6) ∧ (∀ z ∈ L, gA Y sz z.base) ∧
      ((∃ v, o = .returned v ∧ Steps p.tables e below (doInvoke e (U.setTop g) [] mk a).1 (V.setTop { g with pc := g.pc + 3, stack := v.toList ++ g.stack })) ∨
       (∃ q, o = .threw q ∧ Steps p.tables e below (doInvoke e (U.setTop g) [] mk a).1 ((V.setTop g).pushFrame (.throwing q)))) := by
  obtain ⟨methY, cY, hmY, hcY, -, hlY, -, -, -, -⟩ := Cond.code_spec hn (hws _ hcode a U X.warmed)
  obtain ⟨kY, hkY, -⟩ := className_of_methodNamed hn
  have hinitY : kY.init = .initialized := Cond.initialized_spec (findClass_of_methodNamed hn) hkY (hini a U X.warmed)
  have h : At U g.method c below := by rw [hg]; exact X.here
  have h1 : (headSpec ws rm).pre.before a U = true := atoms_intro fun w hw => hws w hw _ _ X.warmed
  have happ : (headSpec ws rm).appliesLoose y e.platform (U.calling g mk a) = true :=
    Spec.appliesLoose_calling (g := g) h hdg hn hkY hinitY
      (X.room_calling (g := g) (R' := (headSpec ws rm).room) hsize hmY hcY hfr (by rw [hlY]; show _ + (maxL + 11) + rm.locals ≤ _; omega) hcells hslots) h1
  obtain ⟨mid, hmid⟩ := h.above
  have hfrm : (U.setTop g).frames = (.java g :: mid) ++ below := by rw [State.frames_setTop' g h.top, hmid]; rfl
  obtain ⟨o, t, hsteps, -, hend, hq⟩ := Steps.callFree hM p X.admits X.cas X.clock (acts := []) hfrm happ (hblind a U g mk hP) trivial
  have hq' : gxQ Y sz Qc XX a (U.calling g mk a) o t := hq
  rw [State.frames_setTop' g h.top] at hend
  obtain ⟨L, ho, hW₂, hsm, hL⟩ := gxQ_ends hq'
  obtain ⟨e2, q2, q3, q4, q5, q6⟩ := hsm
  have e3 : t = ({ (U.calling g mk a).setFrames t.frames with heap := t.heap, slotsUsed := t.slotsUsed } : State).setVm t.vm := by
    have : t = ({ t with vm := (U.calling g mk a).vm } : State).setVm t.vm := rfl
    rw [e2] at this
    exact this
  have hW' : U.WarmedH t.vm := hW₂
  obtain ⟨g₀, hg0⟩ := Option.isSome_iff_exists.mp h.top
  obtain ⟨r, hr⟩ := State.topJava?_eq_some.mp hg0
  have hr' : (({ U with heap := t.heap, slotsUsed := t.slotsUsed } : State).setVm t.vm).frames = .java g₀ :: r := hr
  have hsame : U.sameButNew ({ U with heap := t.heap, slotsUsed := t.slotsUsed } : State) L 1 6 := by
    refine ⟨?_, q2, q3, q4, q5, q6⟩
    obtain ⟨t9, ht9, -⟩ := State.frames_cons hr
    show ({ U with heap := t.heap, slotsUsed := t.slotsUsed } : State) = { U.setFrames U.frames with heap := t.heap, slotsUsed := t.slotsUsed }
    rw [State.setFrames_self ht9]
  subst hg
  refine ⟨o, t, ({ U with heap := t.heap, slotsUsed := t.slotsUsed } : State).setVm t.vm, L, hq', rfl, rfl,
    ⟨X.admits, X.cas, X.clock, X.frames, X.room, X.hears, X.method, X.code, (X.here.setHeapUsed t.heap t.slotsUsed).setVm hW'.alike, X.tail, State.WarmedH.trans X.warmed hW', X.limits, X.bytes, X.same.trans (hsame.setVm s.vm)⟩, hL, ?_⟩
  rcases ho with ⟨v, rfl⟩ | ⟨q, rfl⟩
  · refine Or.inl ⟨v, rfl, ?_⟩
    obtain ⟨c₂, i₂, len₂, hc₂, hd₂, hf₂⟩ := hend
    have hcc : c₂ = c := by
      have h9 : t.code? g.method = U.code? g.method := by rw [State.code?_eq, State.code?_eq, hW'.alike.method?]
      exact Option.some.inj (hc₂.symm.trans (h9.trans h.code))
    subst hcc
    have hlen : len₂ = 3 := by rw [hdg] at hd₂; cases hd₂; rfl
    subst hlen
    have hs₂ : t = (({ U with heap := t.heap, slotsUsed := t.slotsUsed } : State).setVm t.vm).setTop { g with pc := g.pc + 3, stack := v.toList ++ g.stack } := by
      refine e3.trans ?_
      rw [hf₂, State.calling_eq h.top, State.setFrames_setFrames, State.setTop_of_frames _ hr', hr]
      rfl
    rw [← hs₂]
    exact hsteps
  · refine Or.inr ⟨q, rfl, ?_⟩
    have hf₂ : t.frames = .throwing q :: .java g :: U.frames.tail := hend
    have hs₂ : t = ((({ U with heap := t.heap, slotsUsed := t.slotsUsed } : State).setVm t.vm).setTop g).pushFrame (.throwing q) := by
      refine e3.trans ?_
      rw [hf₂, State.calling_eq h.top, State.setFrames_setFrames, State.pushFrame, State.frames_setTop _ hr', State.setTop_of_frames _ hr', State.setFrames_setFrames, hr]
      rfl
    rw [← hs₂]
    exact hsteps
end
end
section
/-! 'throw new E("..")' in a launch without stack traces. -/
section
variable {p : Program} {l : Launch} {e : Env} {R : Room} {s : State} {m : MethodId} {args : Array Value} {below : List Frame} {meth : Method} {c : Code} {locs : List Loc} {cells slots : Nat}
/-- the state that a walk has come to, taken as a start of its own (the tables those of the first start) -/
abbrev gx_here (s T : State) (m : MethodId) (args : Array Value) (below : List Frame) : State := (T.setVm s.vm).setFrames (.invoking m args :: below)
theorem gx_anew {T : State} (X : Stand p l e R s m args below meth c T locs cells slots) {R' : Room} (h1 : R'.frames ≤ R.frames) (h2 : R'.locals ≤ R.locals) (h3 : cells + R'.cells ≤ R.cells) (h4 : slots + R'.slots ≤ R.slots) :
    Stand p l e R' (gx_here s T m args below) m args below meth c T [] 0 0 := by
  have htop : (T.setVm s.vm).topJava?.isSome := X.here.top
  have hF : (gx_here s T m args below).frames = .invoking m args :: below := State.frames_setFrames _ (State.cur_lt_of_top htop)
  obtain ⟨g₀, hg⟩ := Option.isSome_iff_exists.mp htop
  obtain ⟨r, hr⟩ := State.topJava?_eq_some.mp hg
  have k1 : e.platform.stackLimits (T.setVm s.vm).me = e.platform.stackLimits s.me := X.limits
  have k2 : (T.setVm s.vm).me.stackBytes = s.me.stackBytes := X.bytes
  constructor
  case admits => exact X.admits
  case cas => exact X.cas
  case clock => exact X.clock
  case frames => exact hF
  case hears => exact X.hears
  case method => exact X.method
  case code => exact X.code
  case here => exact X.here
  case tail => exact X.tail
  case warmed => exact X.warmed
  case limits =>
    rw [State.stackLimits_setFrames]
    rfl
  case bytes =>
    rw [State.stackBytes_setFrames]
    rfl
  case same =>
    refine ⟨?_, Nat.le_refl _, Nat.le_refl _, ?_, ?_, fun a c9 h9 => ⟨c9, h9, rfl, rfl, fun _ _ => rfl⟩⟩
    · obtain ⟨t, ht, -⟩ := State.frames_cons hr
      show T.setVm s.vm = { (gx_here s T m args below).setFrames (T.setVm s.vm).frames with heap := T.heap, slotsUsed := T.slotsUsed }
      rw [State.setFrames_setFrames, State.setFrames_self ht]
      rfl
    · show T.slotsUsed = T.slotsUsed + ((T.heap.toList.drop T.heap.size).map (·.slots.size)).sum
      rw [List.drop_eq_nil_of_le (Nat.le_of_eq Array.length_toList)]
      rfl
    · show ((T.heap.toList.drop T.heap.size).map (·.slots.size)).sum ≤ 0
      rw [List.drop_eq_nil_of_le (Nat.le_of_eq Array.length_toList)]
      exact Nat.le_refl _
  case room =>
    have hroom := X.room
    have hin : (gx_here s T m args below).localsInUse = s.localsInUse := by
      rw [State.localsInUse_invoking hF (meth := meth) (c := c) X.method X.code, State.localsInUse_invoking X.frames X.method X.code]
    have b1 := X.heapSize
    have b2 := X.used
    have b3 := X.book
    simp only [State.hasRoom, Bool.and_eq_true, decide_eq_true_eq] at hroom ⊢
    obtain ⟨⟨⟨⟨r1, r2, r3, r4, r5, r6⟩, r7⟩, r8⟩, r9⟩ := hroom
    rw [X.frames, List.length_cons] at r2 r3
    simp only [hF, hin, List.length_cons, State.stackLimits_setFrames, State.stackBytes_setFrames, k1, k2]
    refine ⟨⟨⟨⟨by omega, by omega, by omega, by omega, by omega, r6⟩, ?_⟩, ?_⟩, b3⟩
    · show T.heap.size + R'.cells ≤ e.platform.maxCells
      omega
    · show T.slotsUsed + R'.slots ≤ e.platform.maxSlots
      omega
theorem gx_kept {T U : State} {k n : Nat} (h : (gx_here s T m args below).sameButNew ({ U with vm := s.vm } : State) [] k n) : T.heap.size ≤ U.heap.size ∧ ∀ q : Nat, q < T.heap.size → U.heap[q]? = T.heap[q]? := by
  obtain ⟨-, h2, -, -, -, h6⟩ := h
  refine ⟨h2, fun q hq => ?_⟩
  obtain ⟨c9, e1, e2, e3, e4⟩ := h6 q _ (Array.getElem?_eq_getElem hq)
  have hs : c9.slots = (T.heap[q]).slots := Array.ext_getElem? fun i => e4 i (fun hm => by cases hm)
  have h9 : c9 = T.heap[q] := by
    rw [hs] at e2
    exact e2
  have e5 : U.heap[q]? = some c9 := e1
  rw [e5, h9, Array.getElem?_eq_getElem hq]
theorem gWd_grow {Y : gY} {S : gS} {H H1 : Heap} (h : gWd Y S H) (hk : ∀ q : Nat, q < H.size → H1[q]? = H[q]?) : gWd Y S H1 := va_P.kept h (fun k q hq => hk q.1 (h k q hq).lt)
/-- new; dup; the text; the constructor; athrow -/
theorem gx_throw {H : Heap} {Y : gY} {S : gS} {Qc : Array Value → State → Outcome → State → Prop} {XX : String → gS → Prop} {cc : ByteArray} {pc : Nat} {ls : Array Slot} {rest : List Value} (hx : p.tables.exec = Jvm.exec) (hb : c.code = cc) (hl : l.stackTraces = false) {own E : String} {ik ic pc2 : Nat} {sa : Nat}
    (hown : s.vm.findClass own = some m.cls) (hE : Bundle.fit E = true)
    (hk : (Cond.classLink own ik E).before args s = true) (hini : (Cond.initialized E).before args s = true)
    (hat : ∀ T : State, T.heap = H → ∀ w ∈ gxWords own ic E, w.before args (gx_here s T m args below) = true)
    (hS : va_S (gA Y s.heap.size) s.heap H locs) (hP : gWd Y S H) (hsize : ls.size = c.maxLocals)
    (d0 : decode cc pc = .ok (.new ik, 3)) (d3 : decode cc (pc + 3) = .ok (.dup, 1)) (dm : decode cc pc2 = .ok (.invokespecial ic, 3)) (da : decode cc (pc2 + 3) = .ok (.athrow, 1))
    (hld : ∀ (s' T1 : State) (R' : Room) (a : Addr), s'.vm = s.vm → Stand p l e R' s' m args below meth c T1 [] (0 + 1) (0 + 6) → ∀ target, Steps p.tables e below (T1.setTop (F0 m pc2 ls (.ref sa :: .ref a :: .ref a :: rest))) target → Steps p.tables e below (T1.setTop (F0 m (pc + 4) ls (.ref a :: .ref a :: rest))) target)
    (hout : ∀ x ∈ c.exceptionTable.toList, False) (hRf : 5 < R.frames) (hRl : (rest.map fun v => v.category).sum + 82 ≤ R.locals) (hRc : cells + 1 ≤ R.cells) (hRs : slots + 6 ≤ R.slots) (hlocks : meth.locks = false)
    (hw : XX E S) (hc : cells + 1 ≤ 1) (hs : slots + 6 ≤ 6) :
    W p l e R s m args below meth c H locs cells slots (gxZ below Y Qc XX args s) (F0 m pc ls rest) := by
  intro T hT X
  have htr : e.platform.stackTraces = false := (show e.platform.stackTraces = l.stackTraces by rw [X.admits.platform]).trans hl
  have hwords := hat T hT
  have Z := gx_anew X (R' := { frames := R.frames, locals := R.locals, cells := 1, slots := 6 }) (Nat.le_refl _) (Nat.le_refl _) hRc hRs
  have hW0 : s.WarmedH (gx_here s T m args below).vm := State.WarmedH.refl s
  have hk' : (Cond.classLink own ik E).before args (gx_here s T m args below) = true := va_tabs (u := s) rfl rfl hk
  have hini' : (Cond.initialized E).before args (gx_here s T m args below) = true := va_tabs (u := s) rfl rfl hini
  have hins : (Cond.instantiable E 6).before args (gx_here s T m args below) = true := hwords (.instantiable E 6) (by simp [gxWords, Bundle.ownAtoms])
  obtain ⟨vm₁, cX, kX, hfX, hkX, -, -, X₁, st1⟩ := Z.newCold hx (own := own) (C := E) (index := ik) (n := 6) hown hk' hins hini' (g := F0 m pc ls rest) rfl (by rw [hb]; exact d0) (Nat.le_refl _) (Nat.le_refl _)
  generalize hT1 : (T.setVm vm₁).pushCell { cls := cX, slots := kX.instanceTypes.map defaultValue, vm := .none } = T1 at X₁ st1
  have hcellA : T1.heap[T.heap.size]? = some (freshCell cX kX) := by rw [← hT1]; exact State.heap_pushCell_size _ _
  have d3' : decode c.code (pc + 3) = .ok (.dup, 1) := by rw [hb]; exact d3
  have hcat : (Value.ref T.heap.size).category = 1 := rfl
  obtain ⟨U, hsteps, hrun, hend, hW, hsame, ce, hce, hO⟩ := X₁.ctorThrowS hx htr (own := own) (cls := E) (names := ["java/lang/RuntimeException", "java/lang/Exception"]) (ic := ic) hown hE (by decide +kernel) hwords (fun x hx => nomatch hx) hfX hkX hcellA (Nat.le_refl _) (msg := .ref sa) rfl
    (g := F0 m pc2 ls (.ref sa :: .ref T.heap.size :: .ref T.heap.size :: rest)) rfl hsize rfl rfl (rest := rest) rfl
    (by rw [hb]; exact dm) (by rw [hb]; exact da) (fun x hx => absurd (hout x hx) id) hRf (by simp only [List.map_cons, List.sum_cons, hcat]; show 2 * 0 + _ + _ ≤ R.locals; simp only [List.length_cons, List.length_nil]; omega) hlocks
  obtain ⟨f1, f2⟩ := gx_kept hsame
  rw [hT] at f1 f2
  have hWs : s.WarmedH U.vm := hW
  have hcl : s.vm.findClass E = some ce.cls := hO.cls
  have hall : s.sameButNew ({ U with vm := s.vm } : State) locs 1 6 := by
    obtain ⟨e1, e2⟩ := hsame
    rw [State.setFrames_setFrames] at e1
    have h2 : (T.setVm s.vm).sameButNew ({ U with vm := s.vm } : State) [] (0 + 1) (0 + 6) := ⟨e1, e2⟩
    have h3 := X.same.trans h2
    rw [List.append_nil] at h3
    exact h3.mono hc hs
  refine ⟨U, ?_, .threw T.heap.size, hrun, hend, Or.inr ⟨T.heap.size, E, S, ce, locs, rfl, hw, gWd_grow hP f2, ⟨Nat.le_trans hS.1 f1, fun q h1 h2 => (f2 q (Nat.lt_of_lt_of_le h1 hS.1)).trans (hS.2.1 q h1 h2)⟩, hce, hO.vm, hcl, hWs, hall, hS.2.2⟩⟩
  refine st1 _ ?_
  show Steps p.tables e below (T1.setTop { method := m, pc := pc + 3, locals := ls, stack := .ref T.heap.size :: rest, locked := none }) _
  jvm_step X₁.here [X₁.here.top, hx, d3', Value.category]
  exact hld (gx_here s T m args below) T1 _ T.heap.size rfl X₁ _ hsteps
theorem gx_hat {Y : gY} {H : Heap} (hSt : gSt Y s.heap.size s) (hS : va_S (gA Y s.heap.size) s.heap H locs) {ic : Nat} {E : String} (hq : (ic, E) ∈ gxExc) : ∀ T : State, T.heap = H → ∀ w ∈ gxWords "LogDisk" ic E, w.before args (gx_here s T m args below) = true := fun T hT w hw =>
  hSt.2.2 (gx_here s T m args below) args (State.WarmedH.refl s) (fun a h1 h2 => by show T.heap[a]? = _; rw [hT]; exact hS.2.1 a h1 h2) w (List.mem_append_left _ (List.mem_flatMap.mpr ⟨(ic, E), hq, hw⟩))
theorem gx_str {Y : gY} (hSt : gSt Y s.heap.size s) {is : Nat} {text : String} (hq : (is, text) ∈ gxStr) (a' : Array Value) {s' : State} (hv : s'.vm = s.vm) (hown : s.vm.findClass "LogDisk" = some m.cls) : (Cond.stringRef "LogDisk" is text).before a' s' = true ∧ ∃ a, (Term.string "LogDisk" is).eval a' s' none [] s' = some (.ref a) := by
  have h0 : (Cond.stringRef "LogDisk" is text).before a' s = true := hSt.2.2 s a' (State.WarmedH.refl s) (fun _ _ _ => rfl) _ (List.mem_append_right _ (List.mem_append_left _ (List.mem_map.mpr ⟨(is, text), hq, rfl⟩)))
  obtain ⟨k, cf, i, a, -, -, -, -, -, hev⟩ := Cond.stringRef_spec hown h0
  have h1 := vk_R.same hv (vk_R.of h0 hev)
  exact ⟨h1.1, a, h1.2⟩
theorem gx_throwS {H : Heap} {Y : gY} {S : gS} {Qc : Array Value → State → Outcome → State → Prop} {XX : String → gS → Prop} {cc : ByteArray} {pc : Nat} {ls : Array Slot} {rest : List Value} (hx : p.tables.exec = Jvm.exec) (hb : c.code = cc) (hl : l.stackTraces = false) {E text : String} {ik is ic : Nat}
    (hown : s.vm.findClass "LogDisk" = some m.cls) (hE : Bundle.fit E = true) (hk : (Cond.classLink "LogDisk" ik E).before args s = true) (hini : (Cond.initialized E).before args s = true) (hSt : gSt Y s.heap.size s) (hq : (ic, E) ∈ gxExc) (hq2 : (is, text) ∈ gxStr)
    (hS : va_S (gA Y s.heap.size) s.heap H locs) (hP : gWd Y S H) (hsize : ls.size = c.maxLocals)
    (d0 : decode cc pc = .ok (.new ik, 3)) (d3 : decode cc (pc + 3) = .ok (.dup, 1)) (d4 : decode cc (pc + 4) = .ok (.ldc is, 2)) (dm : decode cc (pc + 6) = .ok (.invokespecial ic, 3)) (da : decode cc (pc + 9) = .ok (.athrow, 1))
    (hout : ∀ x ∈ c.exceptionTable.toList, False) (hRf : 5 < R.frames) (hRl : (rest.map fun v => v.category).sum + 82 ≤ R.locals) (hRc : cells + 1 ≤ R.cells) (hRs : slots + 6 ≤ R.slots) (hlocks : meth.locks = false)
    (hw : XX E S) (hc : cells + 1 ≤ 1) (hs : slots + 6 ≤ 6) :
    W p l e R s m args below meth c H locs cells slots (gxZ below Y Qc XX args s) (F0 m pc ls rest) := by
  obtain ⟨-, sa, hsa⟩ := gx_str (m := m) hSt hq2 args rfl hown
  refine gx_throw (sa := sa) (pc2 := pc + 6) hx hb hl hown hE hk hini (gx_hat hSt hS hq) hS hP hsize d0 d3 dm da (fun s' T1 R' a hv X1 target h => ?_) hout hRf hRl hRc hRs hlocks hw hc hs
  obtain ⟨k1, sa', k2⟩ := gx_str (m := m) hSt hq2 args hv hown
  have e : sa' = sa := by
    have h3 := (vk_R.same hv.symm (vk_R.of k1 k2)).2
    have h4 : (Term.string "LogDisk" is).eval #[] s none [] s = some (.ref sa) := hsa
    rw [h4] at h3
    exact (Value.ref.inj (Option.some.inj h3)).symm
  subst e
  exact X1.ldcString hx (own := "LogDisk") (text := text) (index := is) (a := sa') (by rw [hv]; exact hown) k1 k2 (g := F0 m (pc + 4) ls (.ref a :: .ref a :: rest)) rfl (by rw [hb]; exact d4) target h
theorem gx_throwW {H : Heap} {Y : gY} {S : gS} {Qc : Array Value → State → Outcome → State → Prop} {XX : String → gS → Prop} {cc : ByteArray} {pc : Nat} {ls : Array Slot} {rest : List Value} (hx : p.tables.exec = Jvm.exec) (hb : c.code = cc) (hl : l.stackTraces = false) {E text : String} {ik is ic : Nat}
    (hown : s.vm.findClass "LogDisk" = some m.cls) (hE : Bundle.fit E = true) (hk : (Cond.classLink "LogDisk" ik E).before args s = true) (hini : (Cond.initialized E).before args s = true) (hSt : gSt Y s.heap.size s) (hq : (ic, E) ∈ gxExc) (hq2 : (is, text) ∈ gxStr)
    (hS : va_S (gA Y s.heap.size) s.heap H locs) (hP : gWd Y S H) (hsize : ls.size = c.maxLocals)
    (d0 : decode cc pc = .ok (.new ik, 3)) (d3 : decode cc (pc + 3) = .ok (.dup, 1)) (d4 : decode cc (pc + 4) = .ok (.ldc_w is, 3)) (dm : decode cc (pc + 7) = .ok (.invokespecial ic, 3)) (da : decode cc (pc + 10) = .ok (.athrow, 1))
    (hout : ∀ x ∈ c.exceptionTable.toList, False) (hRf : 5 < R.frames) (hRl : (rest.map fun v => v.category).sum + 82 ≤ R.locals) (hRc : cells + 1 ≤ R.cells) (hRs : slots + 6 ≤ R.slots) (hlocks : meth.locks = false)
    (hw : XX E S) (hc : cells + 1 ≤ 1) (hs : slots + 6 ≤ 6) :
    W p l e R s m args below meth c H locs cells slots (gxZ below Y Qc XX args s) (F0 m pc ls rest) := by
  obtain ⟨-, sa, hsa⟩ := gx_str (m := m) hSt hq2 args rfl hown
  refine gx_throw (sa := sa) (pc2 := pc + 7) hx hb hl hown hE hk hini (gx_hat hSt hS hq) hS hP hsize d0 d3 dm da (fun s' T1 R' a hv X1 target h => ?_) hout hRf hRl hRc hRs hlocks hw hc hs
  obtain ⟨k1, sa', k2⟩ := gx_str (m := m) hSt hq2 args hv hown
  have e : sa' = sa := by
    have h3 := (vk_R.same hv.symm (vk_R.of k1 k2)).2
    have h4 : (Term.string "LogDisk" is).eval #[] s none [] s = some (.ref sa) := hsa
    rw [h4] at h3
    exact (Value.ref.inj (Option.some.inj h3)).symm
  subst e
  exact X1.ldcStringW hx (own := "LogDisk") (text := text) (index := is) (a := sa') (by rw [hv]; exact hown) k1 k2 (g := F0 m (pc + 4) ls (.ref a :: .ref a :: rest)) rfl (by rw [hb]; exact d4) target h
theorem gx_ret {H : Heap} {Y : gY} {Qc : Array Value → State → Outcome → State → Prop} {XX : String → gS → Prop} {g : JFrame} (k : W p l e R s m args below meth c H locs cells slots (MQ below Qc args s 0 0 (gA Y s.heap.size)) g) : W p l e R s m args below meth c H locs cells slots (gxZ below Y Qc XX args s) g := by
  intro T hT X
  obtain ⟨t, a1, o, b1, b2, b3, L, b4, b5⟩ := k T hT X
  exact ⟨t, a1, o, b1, b2, Or.inl ⟨b3, L, ⟨b4.1, b4.2.1, b4.2.2.mono (Nat.zero_le _) (Nat.zero_le _)⟩, b5⟩⟩
end
theorem gx_ofW {l : Launch} {y : MethodName} {ws ws' : List Cond} {rm : Room} {Pc : Array Value → State → Prop} {Y : gY} {sz : Nat} {Qc : Array Value → State → Outcome → State → Prop} {XX : String → gS → Prop} {cc : ByteArray} {maxL : Nat} {ret : Option FieldType}
    (hy : plainName y.cls = true) (hw : ws = Cond.code y cc maxL ret :: ws')
    (body : ∀ p e s m args below meth c s₁, BodyLoose p l y (headSpec ws rm) cc maxL ret e s m args below meth c s₁ → c.maxLocals = maxL → (∀ x ∈ c.exceptionTable.toList, False) → Pc args s →
      s.heap.size = sz ∧ W p l e (headSpec ws rm).room s m args below meth c s.heap [] 0 0 (gxZ below Y Qc XX args s) (entryFrame m args maxL)) : gxMet l y ws rm Pc Y sz Qc XX := by
  refine MetFree.of_bodyS (code := cc) (maxLocals := maxL) (ret := ret) hy ?_ ?_
  · intro args s m h hn
    obtain ⟨meth, c, h1, h2, h3, h4, h5, h6, -, -⟩ := Cond.code_spec hn (atoms_spec (ws := ws) h _ (by rw [hw]; exact List.mem_cons_self))
    exact ⟨meth, c, h1, h2, h3, h4, h5, h6⟩
  · intro p e s m args below meth c s₁ B hml hP _
    have hh0 : s₁.heap = s.heap := by rw [B.state]; rfl
    have ht : ∀ x ∈ c.exceptionTable.toList, False := by
      obtain ⟨meth9, c9, h1, h2, -, -, -, -, h7, -⟩ := Cond.code_spec B.named (atoms_spec (ws := ws) B.pre _ (by rw [hw]; exact List.mem_cons_self))
      cases Option.some.inj (h1.symm.trans B.method)
      cases Option.some.inj (h2.symm.trans (Stand.of_body B).code)
      intro x hx
      rw [Array.isEmpty_iff.mp h7] at hx
      cases hx
    obtain ⟨hz, hb⟩ := body p e s m args below meth c s₁ B hml ht hP
    obtain ⟨t, a1, o, b1, b2, b3⟩ := hb s₁ hh0 (Stand.of_body B)
    rw [hz] at b3
    exact ⟨t, o, a1, b1, b2, b3⟩
end
section
/-! Calls of methods that may throw, from a method with a table of its own; its handlers. -/
section
variable {p : Program} {l : Launch} {e : Env} {R : Room} {s : State} {m : MethodId} {args : Array Value} {below : List Frame} {meth : Method} {c : Code} {H : Heap} {locs : List Loc} {cells slots : Nat} {Q : State → Prop}
variable {cc : ByteArray} {pc nL : Nat} {ls : Array Slot} {rest st0 As : List Value} {Y : gY} {S : gS} {Ts : List Cond} {own C : String} {b : Addr}
/-- the frame g, with q thrown over it -/
def gxW (p : Program) (l : Launch) (e : Env) (R : Room) (s : State) (m : MethodId) (args : Array Value) (below : List Frame) (meth : Method) (c : Code) (H : Heap) (locs : List Loc) (cells slots : Nat) (Q : State → Prop) (g : JFrame) (q : Addr) : Prop :=
  ∀ T : State, T.heap = H → Stand p l e R s m args below meth c T locs cells slots → ∃ t, Steps p.tables e below ((T.setTop g).pushFrame (.throwing q)) t ∧ Q t
theorem gx_call {y : MethodName} {ws : List Cond} {rm : Room} {Pw : Prop} {Qc : Array Value → State → Outcome → State → Prop} {XX : String → gS → Prop} {bytes : ByteArray} {maxL n index : Nat} {ret : Option FieldType}
    (F : CallFix p m c cc nL s args Ts own) (hM : gxMet l y ws rm (gPre Y (.ref b :: As) S H.size Pw) Y H.size Qc XX) (cw : CallW R s args own C index y bytes maxL ret ws rm 1 6 n) (hp : PreV s H C b (gPre Y (.ref b :: As) S H.size Pw) As)
    (hn : As.length = n) (hsize : ls.size = nL) (hstack : st0 = As.reverse ++ .ref b :: rest) (hW : 2 * (F0 m pc ls st0).monitorRoom + (rest.map fun v => v.category).sum ≤ 8) (hdg : decode cc pc = .ok (.invokevirtual index, 3)) (hf : cells + 1 ≤ R.cells ∧ slots + 6 ≤ R.slots) (hS : va_S (gA Y s.heap.size) s.heap H locs)
    (kx : ∀ (E : String) (S1 : gS) (q : Addr) (ce : Cell) (H1 : Heap) (locs1 : List Loc), XX E S1 → gWd Y S1 H1 → va_S (gA Y s.heap.size) s.heap H1 locs1 → H1[q]? = some ce → ce.vm = .none → s.vm.findClass E = some ce.cls → gxW p l e R s m args below meth c H1 locs1 (cells + 1) (slots + 6) Q (F0 m pc ls rest) q)
    (kk : ∀ (v : Option Value) (st t : State) (H1 : Heap) (locs1 : List Loc), st.heap = H → t.heap = H1 → Qc (Value.ref b :: As).toArray st (.returned v) t → (va_F (gA Y H.size) st t → va_S (gA Y s.heap.size) s.heap H1 locs1) → W p l e R s m args below meth c H1 locs1 (cells + 1) (slots + 6) Q (F0 m (pc + 3) ls (v.toList ++ rest))) : W p l e R s m args below meth c H locs cells slots Q (F0 m pc ls st0) := by
  obtain ⟨⟨hrc, hrs, hfr, hlo, hws, hcw, hcode, hini, hy, hlen, hl⟩, hin, hse⟩ := cw
  obtain ⟨hx, hb, hml, ho, -⟩ := F
  obtain ⟨hbl, ⟨cellB, hcB, hoB, hclB⟩, hPc⟩ := hp
  intro T hT X
  subst hstack
  obtain ⟨mk, methM, hnamed, hmethM, hstM, habM⟩ := Cond.instanceMethod_spec hin
  obtain ⟨methM', cM, hmethM', -, -, -, -, -, -, hsigM⟩ := Cond.code_spec hnamed hcode
  cases hmethM.symm.trans hmethM'
  obtain ⟨c2, r2, m2, q1, q2, q3, q4, kP, hkP, hkPi⟩ := Cond.selects_spec hse
  cases hclB.symm.trans q1
  cases (State.methodFound?_of_named hnamed hy).symm.trans q2
  cases hnamed.symm.trans q3
  have hselP : selectMethod e.platform s.vm cellB.cls mk = .method mk := by rw [Launch.admits_selectMethod X.admits]; exact q4
  have hdg' : decode c.code pc = .ok (.invokevirtual index, 3) := by rw [hb]; exact hdg
  obtain ⟨vm₁, X₁, hstep₁⟩ := X.invokevirtual hx ho hl hnamed hmethM hstM hkP hkPi hy (a := b) (cell := cellB) (by rw [hT]; exact hcB)
    (fun z h => by rw [h] at hoB; cases hoB) hselP hmethM habM hkP hkPi (g := F0 m pc ls (As.reverse ++ .ref b :: rest)) rfl (argsL := As) (rest := rest) (hn.trans (hlen _ hsigM)) rfl hdg'
  obtain ⟨o, t, V, L, hq, e1, e2, XV, hL, hcase⟩ := gx_back (bytes := bytes) (maxL := maxL) (ret := ret) (ig := .invokevirtual index) (g := F0 m pc ls rest) hM hbl hfr hlo hws hcw (fun a' U hW => word_at hW (Or.inl (by first | rfl | simp [Cond.onTables, Cond.keeps, Cond.steady])) hini) X₁ rfl (hsize.trans hml.symm) hdg' hW (X₁.named hnamed) (by rw [hrc]; exact hf.1) (by rw [hrs]; exact hf.2) (hPc (T.setVm vm₁) hT X₁.warmed)
  have hS1 : va_F (gA Y H.size) ((T.setVm vm₁).calling (F0 m pc ls rest) mk (Value.ref b :: As).toArray) t → va_S (gA Y s.heap.size) s.heap V.heap (locs ++ L) := by
    intro hF
    have hz : H.size ≤ t.heap.size := by have := hF.1; rw [show ((T.setVm vm₁).calling (F0 m pc ls rest) mk (Value.ref b :: As).toArray).heap = H from hT] at this; exact this
    have hk : ∀ q : Nat, q < H.size → ¬ gA Y H.size q → t.heap[q]? = H[q]? := by have := hF.2; rw [show ((T.setVm vm₁).calling (F0 m pc ls rest) mk (Value.ref b :: As).toArray).heap = H from hT] at this; exact this
    rw [e1]
    refine ⟨Nat.le_trans hS.1 hz, fun q h1 h2 => ?_, fun q hq => ?_⟩
    · rw [hk q (Nat.lt_of_lt_of_le h1 hS.1) (fun z => h2 (gA_call hS q z))]
      exact hS.2.1 q h1 h2
    · rcases List.mem_append.mp hq with h | h
      · exact hS.2.2 q h
      · exact gA_call hS _ (hL q h)
  rcases hcase with ⟨v, rfl, st⟩ | ⟨q, rfl, st⟩
  · rcases hq with ⟨hq, -⟩ | ⟨q9, E, S1, ce, L9, h9, -⟩
    · obtain ⟨t2, a1, b1⟩ := kk v ((T.setVm vm₁).calling (F0 m pc ls rest) mk (Value.ref b :: As).toArray) t V.heap (locs ++ L) hT e1.symm hq hS1 V rfl XV
      exact ⟨t2, hstep₁ _ fun acts => by rw [doInvoke_state]; exact st.trans a1, b1⟩
    · cases h9
  · rcases hq with ⟨-, L9, ⟨⟨v9, h9⟩, -⟩, -⟩ | ⟨q9, E, S1, ce, L9, h9, hX, hWd, hF, hce, hcv, hcl, -⟩
    · cases h9
    · cases h9
      have hcl' : s.vm.findClass E = some ce.cls := by
        have h1 : (T.setVm vm₁).vm.findClass E = some ce.cls := hcl
        rw [X₁.warmed.alike.findClass] at h1
        exact h1
      obtain ⟨t2, a1, b1⟩ := kx E S1 q ce V.heap (locs ++ L) hX (by rw [e1]; exact hWd) (hS1 hF) (by rw [e1]; exact hce) hcv hcl' V rfl XV
      exact ⟨t2, hstep₁ _ fun acts => by rw [doInvoke_state]; exact st.trans a1, b1⟩
theorem gx_calli {y : MethodName} {ws : List Cond} {rm : Room} {Pw : Prop} {post : Int32 → gS → Prop} {XX : String → gS → Prop} {bytes : ByteArray} {maxL n index : Nat} {ret : Option FieldType}
    (F : CallFix p m c cc nL s args Ts own) (hM : gxMet l y ws rm (gPre Y (.ref b :: As) S H.size Pw) Y H.size (va_Qi post (gB Y) (gA Y H.size)) XX) (cw : CallW R s args own C index y bytes maxL ret ws rm 1 6 n) (hp : PreV s H C b (gPre Y (.ref b :: As) S H.size Pw) As)
    (hn : As.length = n) (hsize : ls.size = nL) (hstack : st0 = As.reverse ++ .ref b :: rest) (hW : 2 * (F0 m pc ls st0).monitorRoom + (rest.map fun v => v.category).sum ≤ 8) (hdg : decode cc pc = .ok (.invokevirtual index, 3)) (hf : cells + 1 ≤ R.cells ∧ slots + 6 ≤ R.slots) (hS : va_S (gA Y s.heap.size) s.heap H locs)
    (kx : ∀ (E : String) (S1 : gS) (q : Addr) (ce : Cell) (H1 : Heap) (locs1 : List Loc), XX E S1 → gWd Y S1 H1 → va_S (gA Y s.heap.size) s.heap H1 locs1 → H1[q]? = some ce → ce.vm = .none → s.vm.findClass E = some ce.cls → gxW p l e R s m args below meth c H1 locs1 (cells + 1) (slots + 6) Q (F0 m pc ls rest) q)
    (kk : ∀ (r : Int32) (S1 : gS) (H1 : Heap) (locs1 : List Loc), post r S1 → gWd Y S1 H1 → va_S (gA Y s.heap.size) s.heap H1 locs1 → W p l e R s m args below meth c H1 locs1 (cells + 1) (slots + 6) Q (F0 m (pc + 3) ls (.int r :: rest))) : W p l e R s m args below meth c H locs cells slots Q (F0 m pc ls st0) := by
  refine gx_call F hM cw hp hn hsize hstack hW hdg hf hS kx (fun v st t H1 locs1 h0 ht hq hF => ?_)
  obtain ⟨⟨r, u, hv, hp1, hB⟩, hF1⟩ := hq
  cases hv
  exact kk r u H1 locs1 hp1 (by rw [← ht]; exact hB.1) (hF hF1)
theorem gx_callv {y : MethodName} {ws : List Cond} {rm : Room} {Pw : Prop} {post : gS → Prop} {XX : String → gS → Prop} {bytes : ByteArray} {maxL n index : Nat} {ret : Option FieldType}
    (F : CallFix p m c cc nL s args Ts own) (hM : gxMet l y ws rm (gPre Y (.ref b :: As) S H.size Pw) Y H.size (va_Qv post (gB Y) (gA Y H.size)) XX) (cw : CallW R s args own C index y bytes maxL ret ws rm 1 6 n) (hp : PreV s H C b (gPre Y (.ref b :: As) S H.size Pw) As)
    (hn : As.length = n) (hsize : ls.size = nL) (hstack : st0 = As.reverse ++ .ref b :: rest) (hW : 2 * (F0 m pc ls st0).monitorRoom + (rest.map fun v => v.category).sum ≤ 8) (hdg : decode cc pc = .ok (.invokevirtual index, 3)) (hf : cells + 1 ≤ R.cells ∧ slots + 6 ≤ R.slots) (hS : va_S (gA Y s.heap.size) s.heap H locs)
    (kx : ∀ (E : String) (S1 : gS) (q : Addr) (ce : Cell) (H1 : Heap) (locs1 : List Loc), XX E S1 → gWd Y S1 H1 → va_S (gA Y s.heap.size) s.heap H1 locs1 → H1[q]? = some ce → ce.vm = .none → s.vm.findClass E = some ce.cls → gxW p l e R s m args below meth c H1 locs1 (cells + 1) (slots + 6) Q (F0 m pc ls rest) q)
    (kk : ∀ (S1 : gS) (H1 : Heap) (locs1 : List Loc), post S1 → gWd Y S1 H1 → va_S (gA Y s.heap.size) s.heap H1 locs1 → W p l e R s m args below meth c H1 locs1 (cells + 1) (slots + 6) Q (F0 m (pc + 3) ls rest)) : W p l e R s m args below meth c H locs cells slots Q (F0 m pc ls st0) := by
  refine gx_call F hM cw hp hn hsize hstack hW hdg hf hS kx (fun v st t H1 locs1 h0 ht hq hF => ?_)
  obtain ⟨⟨u, hv, hp1, hB⟩, hF1⟩ := hq
  cases hv
  exact kk u H1 locs1 hp1 (by rw [← ht]; exact hB.1) (hF hF1)
/-- caught by the row x; the rows ahead name classes that the object is none of -/
theorem gx_catch {name E : String} {ce : Cell} {q : Addr} (hown : s.vm.findClass own = some m.cls) (pre : List ExceptionTableEntry) (x : ExceptionTableEntry) (suf : List ExceptionTableEntry) (hsplit : c.exceptionTable.toList = pre ++ x :: suf)
    (hpass : ∀ z ∈ pre, z.catchType ≠ 0 ∧ ∃ nm : String, (Cond.classLink own z.catchType nm).before args s = true ∧ (Cond.not (Cond.castable E nm)).before args s = true) (hx : covers x pc = true) (h0 : x.catchType ≠ 0)
    (hlink : (Cond.classLink own x.catchType name).before args s = true) (hcast : (Cond.castable E name).before args s = true) (hcell : H[q]? = some ce) (hv : ce.vm = .none) (hcl : s.vm.findClass E = some ce.cls)
    (kk : W p l e R s m args below meth c H locs cells slots Q (F0 m x.handlerPc ls [.ref q])) : gxW p l e R s m args below meth c H locs cells slots Q (F0 m pc ls rest) q := by
  intro T hT X
  have hpl : e.platform.magicAccessors = ({} : Platform).magicAccessors := by rw [X.admits.platform]
  obtain ⟨c3, cT, hc3, hcT, hasg⟩ := Cond.castable_spec hcast
  cases Option.some.inj (hc3.symm.trans hcl)
  obtain ⟨hend, hk0⟩ := X.catches_of_link hown h0 hlink hcT hasg
  obtain ⟨vm', XV, st⟩ := X.thenCaughtThrough q (g := F0 m pc ls rest) rfl (Steps.refl _) (by rw [hT]; exact hcell) (by rw [hv]; rfl) hk0 pre x suf hsplit
    (fun z hz => by
      obtain ⟨hz0, nm, hl1, hno⟩ := hpass z hz
      exact RowPassed.of_words hpl hown hz0 hl1 hcl hno) hx hend
  obtain ⟨t, a1, b1⟩ := kk (T.setVm vm') hT XV
  exact ⟨t, st.trans a1, b1⟩
end
theorem gx_table {p : Program} {l : Launch} {y : MethodName} {Sp : Spec} {cc bytes : ByteArray} {maxL maxL' : Nat} {ret ret' : Option FieldType} {e : Env} {s s₁ : State} {m : MethodId} {args : Array Value} {below : List Frame} {meth : Method} {c : Code} {hh : List (Nat × Nat × Nat × Nat)}
    (B : BodyLoose p l y Sp cc maxL ret e s m args below meth c s₁) (h : (Cond.codeWith y bytes maxL' ret' hh).before args s = true) : c.exceptionTable.toList = tableOf hh := by
  obtain ⟨m9, meth9, c9, hn9, h1, h2, -, -, h6, -⟩ := Cond.codeWith_spec h
  cases Option.some.inj (hn9.symm.trans B.named)
  cases Option.some.inj (h1.symm.trans B.method)
  cases Option.some.inj (h2.symm.trans (Stand.of_body B).code)
  rw [← h6, table_eq]
theorem gx_castY {Y : gY} {s : State} (hSt : gSt Y s.heap.size s) (a' : Array Value) {ic : Nat} {E : String} (hq : (ic, E) ∈ gxExc) : (Cond.castable E E).before a' s = true :=
  hSt.2.2 s a' (State.WarmedH.refl s) (fun _ _ _ => rfl) _ (List.mem_append_left _ (List.mem_flatMap.mpr ⟨(ic, E), hq, by simp [gxWords, Bundle.ownAtoms]⟩))
theorem gx_castN {Y : gY} {s : State} (hSt : gSt Y s.heap.size s) (a' : Array Value) {E F : String} (hq : (E, F) ∈ gxNo) : (Cond.not (Cond.castable E F)).before a' s = true :=
  hSt.2.2 s a' (State.WarmedH.refl s) (fun _ _ _ => rfl) _ (List.mem_append_right _ (List.mem_append_right _ (List.mem_map.mpr ⟨(E, F), hq, rfl⟩)))
end
